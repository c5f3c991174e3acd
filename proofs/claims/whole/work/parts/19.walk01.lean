def XTa_append_l3 : Nat → Int32 → Int32 → ax_S → Option (ax_S)
  | 0, _, _, _ => none
  | n + 1, x1, x2, s =>
    if x2 < 0 then (
      some s) else
    if (260 : Int32) ≤ (s.2.1 1 1) then (
      XTa_append_l3 n x1 (x2 + (-8)) s) else
    if ((s.2.1 1 1) < 0 ∨ 260 ≤ ((s.2.1 1 1)).toNatClampNeg) then none else
    XTa_append_l3 n x1 (x2 + (-8)) (ax_sI (ax_sI s 2 ((s.2.1 1 1)).toNatClampNeg (((x1).toUInt32 >>> ((x2).toUInt32 &&& Int32.toUInt32 31)).toInt32 &&& (255 : Int32))) 1 1 ((s.2.1 1 1) + (1 : Int32)))
def XTa_append (x1 : Int32)  (s : ax_S) : Option (ax_S) :=
  match XTa_append_l3 70000 x1 (24 : Int32) s with
  | none => none
  | some s1 =>
    some s1
theorem w_XTa_append_l3 (d : Nat) {o : ax_O} : ∀ (n : Nat) (x1 : Int32) (x2 : Int32) (s : ax_S) (r : ax_S) (h : XTa_append_l3 n x1 x2 s = some r) (hk0 : ∀ (t0 : ax_S), r = t0 → ax_go true none (ax_ev true (d + 0)) ax_m20 51 [none, none, none] [] t0 o), ax_go true none (ax_ev true (d + 0)) ax_m20 3 [some (.ref 1), some (.int x1), some (.int x2)] [] s o := by
  intro n
  induction n with
  | zero => intro x1 x2 s r h hk0; cases h
  | succ n ih =>
    intro x1 x2 s r h hk0
    rw [XTa_append_l3] at h
    by_cases c1 : x2 < 0
    · rw [if_pos c1] at h
      have h := Option.some.inj h
      subst r
      exact ax_cut (pc' := 51) (la := [some (.ref 1), some (.int x1), some (.int x2)]) [none, none, none] (st' := []) (σ' := s) 2 (trivial) (fun _ hh => (And.intro (fun _ => hh) (fun q => absurd c1 q))) (hk0 _ rfl)
    · rw [if_neg c1] at h
      by_cases c2 : (260 : Int32) ≤ (s.2.1 1 1)
      · rw [if_pos c2] at h
        exact ax_cut (pc' := 3) (la := [some (.ref 1), some (.int x1), some (.int (x2 + (-8)))]) [some (.ref 1), some (.int x1), some (.int (x2 + (-8)))] (st' := []) (σ' := s) 10 (And.intro rfl (And.intro rfl (And.intro rfl (trivial)))) (fun _ hh => (And.intro (fun q => absurd q c1) (fun _ => (And.intro (fun _ => hh) (fun q => absurd c2 q))))) (ih x1 (x2 + (-8)) s _ h hk0)
      · rw [if_neg c2] at h
        refine ax_cut (pc' := 33) (la := [some (.ref 1), some (.int x1), some (.int x2)]) [some (.ref 1), some (.int x1), some (.int x2)] (st' := [.int (255 : Int32), .int ((x1).toUInt32 >>> ((x2).toUInt32 &&& Int32.toUInt32 31)).toInt32, .int (s.2.1 1 1), .ref 2]) (σ' := s) 16 (And.intro rfl (And.intro rfl (And.intro rfl (trivial)))) (fun _ hh => (And.intro (fun q => absurd q c1) (fun _ => (And.intro (fun q => absurd q c2) (fun _ => hh))))) ?_
        by_cases c3 : ((s.2.1 1 1) < 0 ∨ 260 ≤ ((s.2.1 1 1)).toNatClampNeg)
        · rw [if_pos c3] at h; cases h
        · rw [if_neg c3] at h
          exact ax_cut (pc' := 3) (la := [some (.ref 1), some (.int x1), some (.int (x2 + (-8)))]) [some (.ref 1), some (.int x1), some (.int (x2 + (-8)))] (st' := []) (σ' := (ax_sI (ax_sI s 2 ((s.2.1 1 1)).toNatClampNeg (((x1).toUInt32 >>> ((x2).toUInt32 &&& Int32.toUInt32 31)).toInt32 &&& (255 : Int32))) 1 1 ((s.2.1 1 1) + (1 : Int32)))) 10 (And.intro rfl (And.intro rfl (And.intro rfl (trivial)))) (fun _ hh => (And.intro c3 hh)) (ih x1 (x2 + (-8)) (ax_sI (ax_sI s 2 ((s.2.1 1 1)).toNatClampNeg (((x1).toUInt32 >>> ((x2).toUInt32 &&& Int32.toUInt32 31)).toInt32 &&& (255 : Int32))) 1 1 ((s.2.1 1 1) + (1 : Int32))) _ h hk0)
theorem e_XTa_append (d : Nat) {x1 : Int32} {s : ax_S} {r : ax_S} (h : XTa_append x1 s = some r) : ax_ev true (d + 1) 20 [.ref 1, .int x1] s (none, r) := by
  refine ⟨Nat.le_of_ble_eq_true rfl, ?_⟩
  show ax_go true none (ax_ev true (d + 0)) ax_m20 0 [some (.ref 1), some (.int x1), none] [] s _
  unfold XTa_append at h
  cases hz1 : XTa_append_l3 70000 x1 (24 : Int32) s with
  | none => rw [hz1] at h; cases h
  | some z1 =>
  rw [hz1] at h
  refine ax_cut (pc' := 3) (la := [some (.ref 1), some (.int x1), some (.int (24 : Int32))]) [some (.ref 1), some (.int x1), some (.int (24 : Int32))] (st' := []) (σ' := s) 2 (And.intro rfl (And.intro rfl (And.intro rfl (trivial)))) (fun _ hh => hh) (w_XTa_append_l3 d 70000 x1 (24 : Int32) s _ hz1 ?_)
  · intro s1 hq
    subst z1
    dsimp only at h
    have h := Option.some.inj h
    subst r
    exact ax_end 1 rfl
def X_feed (x1 : Int32) (x2 : Int32) (x3 : Int32) (x4 : Int32) (x5 : Int32)  (s : ax_S) : Option (Int32 × ax_S) :=
  if (XTa_length s) ≤ (240 : Int32) then (
    match XTa_append x1 s with
    | none => none
    | some s1 =>
      match XTa_append x2 s1 with
      | none => none
      | some s2 =>
        match XTa_append x3 s2 with
        | none => none
        | some s3 =>
          match XTa_append x4 s3 with
          | none => none
          | some s4 =>
            match XTa_append x5 s4 with
            | none => none
            | some s5 =>
              some ((XTa_length s5), s5)) else
  some ((-1 : Int32), s)
theorem e_X_feed (d : Nat) {x1 : Int32} {x2 : Int32} {x3 : Int32} {x4 : Int32} {x5 : Int32} {s : ax_S} {r : Int32 × ax_S} (h : X_feed x1 x2 x3 x4 x5 s = some r) : ax_ev true (d + 2) 18 [.ref 0, .int x1, .int x2, .int x3, .int x4, .int x5] s (some (.int r.1), r.2) := by
  refine ⟨Nat.le_of_ble_eq_true rfl, ?_⟩
  show ax_go true none (ax_ev true (d + 1)) ax_m18 0 [some (.ref 0), some (.int x1), some (.int x2), some (.int x3), some (.int x4), some (.int x5)] [] s _
  unfold X_feed at h
  by_cases c1 : (XTa_length s) ≤ (240 : Int32)
  · rw [if_pos c1] at h
    cases hz2 : XTa_append x1 s with
    | none => rw [hz2] at h; cases h
    | some s1 =>
    rw [hz2] at h
    dsimp only at h
    cases hz3 : XTa_append x2 s1 with
    | none => rw [hz3] at h; cases h
    | some s2 =>
    rw [hz3] at h
    dsimp only at h
    refine ax_cut (pc' := 36) (la := [some (.ref 0), some (.int x1), some (.int x2), some (.int x3), some (.int x4), some (.int x5)]) [some (.ref 0), none, none, none, some (.int x4), some (.int x5)] (st' := [.int x3, .ref 1]) (σ' := s2) 16 (And.intro rfl (And.intro rfl (And.intro rfl (trivial)))) (fun _ hh => (Exists.intro (some (.int (XTa_length s)), s) (And.intro (e_XTa_length d  s) (And.intro (fun _ => (Exists.intro (none, s1) (And.intro (e_XTa_append d hz2) (Exists.intro (none, s2) (And.intro (e_XTa_append d hz3) hh))))) (fun q => absurd c1 q))))) ?_
    cases hz4 : XTa_append x3 s2 with
    | none => rw [hz4] at h; cases h
    | some s3 =>
    rw [hz4] at h
    dsimp only at h
    cases hz5 : XTa_append x4 s3 with
    | none => rw [hz5] at h; cases h
    | some s4 =>
    rw [hz5] at h
    dsimp only at h
    cases hz6 : XTa_append x5 s4 with
    | none => rw [hz6] at h; cases h
    | some s5 =>
    rw [hz6] at h
    dsimp only at h
    have h := Option.some.inj h
    subst r
    exact ax_end 13 (Exists.intro (none, s3) (And.intro (e_XTa_append d hz4) (Exists.intro (none, s4) (And.intro (e_XTa_append d hz5) (Exists.intro (none, s5) (And.intro (e_XTa_append d hz6) (Exists.intro (some (.int (XTa_length s5)), s5) (And.intro (e_XTa_length d  s5) rfl))))))))
  · rw [if_neg c1] at h
    have h := Option.some.inj h
    subst r
    exact ax_end 7 (Exists.intro (some (.int (XTa_length s)), s) (And.intro (e_XTa_length d  s) (And.intro (fun q => absurd q c1) (fun _ => rfl))))
def M_types_l2 : Nat → Int32 → Int32 → ax_S → Option (ax_S)
  | 0, _, _, _ => none
  | n + 1, x1, x2, s =>
    if x2 < 0 then (
      some s) else
    if ((s.2.1 63 5) < 0 ∨ 260 ≤ ((s.2.1 63 5)).toNatClampNeg) then none else
    M_types_l2 n x1 (x2 + (-1)) (ax_sI (ax_sI s 67 ((s.2.1 63 5)).toNatClampNeg (((x1 >>> (((8 : Int32) * x2) &&& 31))).toInt8.toInt32).toInt8.toInt32) 63 5 ((s.2.1 63 5) + (1 : Int32)))
def M_types (x1 : Int32)  (s : ax_S) : Option (ax_S) :=
  match M_types_l2 70000 x1 (3 : Int32) s with
  | none => none
  | some s1 =>
    some s1
theorem w_M_types_l2 (d : Nat) {o : ax_O} : ∀ (n : Nat) (x1 : Int32) (x2 : Int32) (s : ax_S) (r : ax_S) (h : M_types_l2 n x1 x2 s = some r) (hk0 : ∀ (t0 : ax_S), r = t0 → ax_go true none (ax_ev true (d + 0)) ax_m182 38 [none, none, none] [] t0 o), ax_go true none (ax_ev true (d + 0)) ax_m182 2 [some (.ref 63), some (.int x1), some (.int x2)] [] s o := by
  intro n
  induction n with
  | zero => intro x1 x2 s r h hk0; cases h
  | succ n ih =>
    intro x1 x2 s r h hk0
    rw [M_types_l2] at h
    by_cases c1 : x2 < 0
    · rw [if_pos c1] at h
      have h := Option.some.inj h
      subst r
      exact ax_cut (pc' := 38) (la := [some (.ref 63), some (.int x1), some (.int x2)]) [none, none, none] (st' := []) (σ' := s) 2 (trivial) (fun _ hh => (And.intro (fun _ => hh) (fun q => absurd c1 q))) (hk0 _ rfl)
    · rw [if_neg c1] at h
      by_cases c2 : ((s.2.1 63 5) < 0 ∨ 260 ≤ ((s.2.1 63 5)).toNatClampNeg)
      · rw [if_pos c2] at h; cases h
      · rw [if_neg c2] at h
        refine ax_cut (pc' := 27) (la := [some (.ref 63), some (.int x1), some (.int x2)]) [some (.ref 63), some (.int x1), some (.int x2)] (st' := [.int (s.2.1 63 5), .ref 63]) (σ' := (ax_sI s 67 ((s.2.1 63 5)).toNatClampNeg (((x1 >>> (((8 : Int32) * x2) &&& 31))).toInt8.toInt32).toInt8.toInt32)) 16 (And.intro rfl (And.intro rfl (And.intro rfl (trivial)))) (fun _ hh => (And.intro (fun q => absurd q c1) (fun _ => (And.intro c2 hh)))) ?_
        exact ax_cut (pc' := 2) (la := [some (.ref 63), some (.int x1), some (.int (x2 + (-1)))]) [some (.ref 63), some (.int x1), some (.int (x2 + (-1)))] (st' := []) (σ' := (ax_sI (ax_sI s 67 ((s.2.1 63 5)).toNatClampNeg (((x1 >>> (((8 : Int32) * x2) &&& 31))).toInt8.toInt32).toInt8.toInt32) 63 5 ((s.2.1 63 5) + (1 : Int32)))) 5 (And.intro rfl (And.intro rfl (And.intro rfl (trivial)))) (fun _ hh => hh) (ih x1 (x2 + (-1)) (ax_sI (ax_sI s 67 ((s.2.1 63 5)).toNatClampNeg (((x1 >>> (((8 : Int32) * x2) &&& 31))).toInt8.toInt32).toInt8.toInt32) 63 5 ((s.2.1 63 5) + (1 : Int32))) _ h hk0)
theorem e_M_types (d : Nat) {x1 : Int32} {s : ax_S} {r : ax_S} (h : M_types x1 s = some r) : ax_ev true (d + 1) 182 [.ref 63, .int x1] s (none, r) := by
  refine ⟨Nat.le_of_ble_eq_true rfl, ?_⟩
  show ax_go true none (ax_ev true (d + 0)) ax_m182 0 [some (.ref 63), some (.int x1), none] [] s _
  unfold M_types at h
  cases hz1 : M_types_l2 70000 x1 (3 : Int32) s with
  | none => rw [hz1] at h; cases h
  | some z1 =>
  rw [hz1] at h
  refine ax_cut (pc' := 2) (la := [some (.ref 63), some (.int x1), some (.int (3 : Int32))]) [some (.ref 63), some (.int x1), some (.int (3 : Int32))] (st' := []) (σ' := s) 2 (And.intro rfl (And.intro rfl (And.intro rfl (trivial)))) (fun _ hh => hh) (w_M_types_l2 d 70000 x1 (3 : Int32) s _ hz1 ?_)
  · intro s1 hq
    subst z1
    dsimp only at h
    have h := Option.some.inj h
    subst r
    exact ax_end 1 rfl
def M_feed (x1 : Int32) (x2 : Int32) (x3 : Int32) (x4 : Int32) (x5 : Int32)  (s : ax_S) : Option (Int32 × ax_S) :=
  if ((s.2.1 63 5) + (20 : Int32)) ≤ (260 : Int32) then (
    match M_types x1 s with
    | none => none
    | some s1 =>
      match M_types x2 s1 with
      | none => none
      | some s2 =>
        match M_types x3 s2 with
        | none => none
        | some s3 =>
          match M_types x4 s3 with
          | none => none
          | some s4 =>
            match M_types x5 s4 with
            | none => none
            | some s5 =>
              some ((s5.2.1 63 5), s5)) else
  some ((-1 : Int32), s)
theorem e_M_feed (d : Nat) {x1 : Int32} {x2 : Int32} {x3 : Int32} {x4 : Int32} {x5 : Int32} {s : ax_S} {r : Int32 × ax_S} (h : M_feed x1 x2 x3 x4 x5 s = some r) : ax_ev true (d + 2) 181 [.ref 63, .int x1, .int x2, .int x3, .int x4, .int x5] s (some (.int r.1), r.2) := by
  refine ⟨Nat.le_of_ble_eq_true rfl, ?_⟩
  show ax_go true none (ax_ev true (d + 1)) ax_m181 0 [some (.ref 63), some (.int x1), some (.int x2), some (.int x3), some (.int x4), some (.int x5)] [] s _
  unfold M_feed at h
  by_cases c1 : ((s.2.1 63 5) + (20 : Int32)) ≤ (260 : Int32)
  · rw [if_pos c1] at h
    cases hz2 : M_types x1 s with
    | none => rw [hz2] at h; cases h
    | some s1 =>
    rw [hz2] at h
    dsimp only at h
    cases hz3 : M_types x2 s1 with
    | none => rw [hz3] at h; cases h
    | some s2 =>
    rw [hz3] at h
    dsimp only at h
    cases hz4 : M_types x3 s2 with
    | none => rw [hz4] at h; cases h
    | some s3 =>
    rw [hz4] at h
    dsimp only at h
    refine ax_cut (pc' := 31) (la := [some (.ref 63), some (.int x1), some (.int x2), some (.int x3), some (.int x4), some (.int x5)]) [some (.ref 63), none, none, none, some (.int x4), some (.int x5)] (st' := [.ref 63]) (σ' := s3) 16 (And.intro rfl (And.intro rfl (And.intro rfl (trivial)))) (fun _ hh => (And.intro (fun _ => (Exists.intro (none, s1) (And.intro (e_M_types d hz2) (Exists.intro (none, s2) (And.intro (e_M_types d hz3) (Exists.intro (none, s3) (And.intro (e_M_types d hz4) hh))))))) (fun q => absurd c1 q))) ?_
    cases hz5 : M_types x4 s3 with
    | none => rw [hz5] at h; cases h
    | some s4 =>
    rw [hz5] at h
    dsimp only at h
    cases hz6 : M_types x5 s4 with
    | none => rw [hz6] at h; cases h
    | some s5 =>
    rw [hz6] at h
    dsimp only at h
    have h := Option.some.inj h
    subst r
    exact ax_end 8 (Exists.intro (none, s4) (And.intro (e_M_types d hz5) (Exists.intro (none, s5) (And.intro (e_M_types d hz6) rfl))))
  · rw [if_neg c1] at h
    have h := Option.some.inj h
    subst r
    exact ax_end 8 (And.intro (fun q => absurd q c1) (fun _ => rfl))
def XTa_holds (x1 : Int32)  (s : ax_S) : Int32 :=
  if (s.2.1 1 1) < x1 then (
    (0 : Int32)) else
  (1 : Int32)
theorem e_XTa_holds (d : Nat) (x1 : Int32) (s : ax_S) : ax_ev true (d + 1) 22 [.ref 1, .int x1] s (some (.int (XTa_holds x1 s)), s) := by
  refine ⟨Nat.le_of_ble_eq_true rfl, ?_⟩
  generalize h : XTa_holds x1 s = r
  show ax_go true none (ax_ev true (d + 0)) ax_m22 0 [some (.ref 1), some (.int x1)] [] s _
  unfold XTa_holds at h
  by_cases c1 : (s.2.1 1 1) < x1
  · rw [if_pos c1] at h
    have h := h
    subst r
    exact ax_end 6 (And.intro (fun _ => (And.intro (Or.inl rfl) rfl)) (fun q => absurd c1 q))
  · rw [if_neg c1] at h
    have h := h
    subst r
    exact ax_end 7 (And.intro (fun q => absurd q c1) (fun _ => (And.intro (Or.inr rfl) rfl)))
def XLa_clear_44  (s : ax_S) : ax_S :=
  (ax_sI (ax_sI s 44 7 (0 : Int32)) 44 8 (0 : Int32))
theorem e_XLa_clear_44 (d : Nat)  (s : ax_S) : ax_ev true (d + 1) 23 [.ref 44] s (none, (XLa_clear_44 s)) := by
  refine ⟨Nat.le_of_ble_eq_true rfl, ?_⟩
  generalize h : XLa_clear_44 s = r
  show ax_go true none (ax_ev true (d + 0)) ax_m23 0 [some (.ref 44)] [] s _
  unfold XLa_clear_44 at h
  have h := h
  subst r
  exact ax_end 7 rfl
def XTa_beginText (x1 : Int32)  (s : ax_S) : ax_S :=
  (ax_sI (ax_sI (ax_sI (ax_sI s 1 2 (if (s.2.1 1 1) < x1 then (s.2.1 1 1) else x1)) 1 3 (0 : Int32)) 1 4 (0 : Int32)) 1 5 (0 : Int32))
theorem e_XTa_beginText (d : Nat) (x1 : Int32) (s : ax_S) : ax_ev true (d + 1) 25 [.ref 1, .int x1] s (none, (XTa_beginText x1 s)) := by
  refine ⟨Nat.le_of_ble_eq_true rfl, ?_⟩
  generalize h : XTa_beginText x1 s = r
  show ax_go true none (ax_ev true (d + 0)) ax_m25 0 [some (.ref 1), some (.int x1)] [] s _
  unfold XTa_beginText at h
  have h := h
  subst r
  exact ax_end 16 rfl
def XTa_fault  (s : ax_S) : Int32 :=
  (s.2.1 1 5)
theorem e_XTa_fault (d : Nat)  (s : ax_S) : ax_ev true (d + 1) 63 [.ref 1] s (some (.int (XTa_fault s)), s) := by
  refine ⟨Nat.le_of_ble_eq_true rfl, ?_⟩
  generalize h : XTa_fault s = r
  show ax_go true none (ax_ev true (d + 0)) ax_m63 0 [some (.ref 1)] [] s _
  unfold XTa_fault at h
  have h := h
  subst r
  exact ax_end 3 rfl
def XLaRe_canBegin (x1 : Int32)  (s : ax_S) : Int32 :=
  if x1 = (119 : Int32) then (
    (1 : Int32)) else
  if x1 = (108 : Int32) then (
    (1 : Int32)) else
  if x1 = (104 : Int32) then (
    (1 : Int32)) else
  if x1 = (99 : Int32) then (
    (1 : Int32)) else
  (0 : Int32)
theorem e_XLaRe_canBegin (d : Nat) (x1 : Int32) (s : ax_S) : ax_ev true (d + 1) 29 [.ref 54, .int x1] s (some (.int (XLaRe_canBegin x1 s)), s) := by
  refine ⟨Nat.le_of_ble_eq_true rfl, ?_⟩
  generalize h : XLaRe_canBegin x1 s = r
  show ax_go true none (ax_ev true (d + 0)) ax_m29 0 [some (.ref 54), some (.int x1)] [] s _
  unfold XLaRe_canBegin at h
  by_cases c1 : x1 = (119 : Int32)
  · rw [if_pos c1] at h
    have h := h
    subst r
    exact ax_end 6 (And.intro (fun _ => (And.intro (Or.inr rfl) rfl)) (fun q => absurd c1 q))
  · rw [if_neg c1] at h
    by_cases c2 : x1 = (108 : Int32)
    · rw [if_pos c2] at h
      have h := h
      subst r
      exact ax_end 9 (And.intro (fun q => absurd q c1) (fun _ => (And.intro (fun _ => (And.intro (Or.inr rfl) rfl)) (fun q => absurd c2 q))))
    · rw [if_neg c2] at h
      by_cases c3 : x1 = (104 : Int32)
      · rw [if_pos c3] at h
        have h := h
        subst r
        exact ax_end 12 (And.intro (fun q => absurd q c1) (fun _ => (And.intro (fun q => absurd q c2) (fun _ => (And.intro (fun _ => (And.intro (Or.inr rfl) rfl)) (fun q => absurd c3 q))))))
      · rw [if_neg c3] at h
        by_cases c4 : x1 = (99 : Int32)
        · rw [if_pos c4] at h
          have h := h
          subst r
          exact ax_end 15 (And.intro (fun q => absurd q c1) (fun _ => (And.intro (fun q => absurd q c2) (fun _ => (And.intro (fun q => absurd q c3) (fun _ => (And.intro (fun q => absurd c4 q) (fun _ => (And.intro (Or.inr rfl) rfl)))))))))
        · rw [if_neg c4] at h
          have h := h
          subst r
          exact ax_end 14 (And.intro (fun q => absurd q c1) (fun _ => (And.intro (fun q => absurd q c2) (fun _ => (And.intro (fun q => absurd q c3) (fun _ => (And.intro (fun _ => (And.intro (Or.inl rfl) rfl)) (fun q => absurd c4 q))))))))
def XLa_beginRule_44 (x1 : Int32)  (s : ax_S) : Option (ax_S) :=
  if (16 : Int32) ≤ (s.2.1 44 7) then (
    some s) else
  if ((s.2.1 44 7) < 0 ∨ 16 ≤ ((s.2.1 44 7)).toNatClampNeg) then none else
  if ((s.2.1 44 7) < 0 ∨ 16 ≤ ((s.2.1 44 7)).toNatClampNeg) then none else
  some (ax_sI (ax_sI s 45 ((s.2.1 44 7)).toNatClampNeg x1) 46 ((s.2.1 44 7)).toNatClampNeg (s.2.1 44 8))
theorem e_XLa_beginRule_44 (d : Nat) {x1 : Int32} {s : ax_S} {r : ax_S} (h : XLa_beginRule_44 x1 s = some r) : ax_ev true (d + 1) 47 [.ref 44, .int x1] s (none, r) := by
  refine ⟨Nat.le_of_ble_eq_true rfl, ?_⟩
  show ax_go true none (ax_ev true (d + 0)) ax_m47 0 [some (.ref 44), some (.int x1)] [] s _
  unfold XLa_beginRule_44 at h
  by_cases c1 : (16 : Int32) ≤ (s.2.1 44 7)
  · rw [if_pos c1] at h
    have h := Option.some.inj h
    subst r
    exact ax_end 7 (And.intro (fun _ => rfl) (fun q => absurd c1 q))
  · rw [if_neg c1] at h
    by_cases c2 : ((s.2.1 44 7) < 0 ∨ 16 ≤ ((s.2.1 44 7)).toNatClampNeg)
    · rw [if_pos c2] at h; cases h
    · rw [if_neg c2] at h
      refine ax_cut (pc' := 30) (la := [some (.ref 44), some (.int x1)]) [some (.ref 44), none] (st' := [.int (s.2.1 44 7), .ref 46]) (σ' := (ax_sI s 45 ((s.2.1 44 7)).toNatClampNeg x1)) 16 (And.intro rfl (trivial)) (fun _ hh => (And.intro (fun q => absurd q c1) (fun _ => (And.intro c2 hh)))) ?_
      by_cases c3 : ((s.2.1 44 7) < 0 ∨ 16 ≤ ((s.2.1 44 7)).toNatClampNeg)
      · rw [if_pos c3] at h; cases h
      · rw [if_neg c3] at h
        have h := Option.some.inj h
        subst r
        exact ax_end 4 (And.intro c3 rfl)
def XLa_beginCondition_44  (s : ax_S) : Option (ax_S) :=
  if (16 : Int32) ≤ (s.2.1 44 7) then (
    some s) else
  if ((s.2.1 44 7) < 0 ∨ 16 ≤ ((s.2.1 44 7)).toNatClampNeg) then none else
  some (ax_sI s 47 ((s.2.1 44 7)).toNatClampNeg (s.2.1 44 8))
theorem e_XLa_beginCondition_44 (d : Nat)  {s : ax_S} {r : ax_S} (h : XLa_beginCondition_44 s = some r) : ax_ev true (d + 1) 54 [.ref 44] s (none, r) := by
  refine ⟨Nat.le_of_ble_eq_true rfl, ?_⟩
  show ax_go true none (ax_ev true (d + 0)) ax_m54 0 [some (.ref 44)] [] s _
  unfold XLa_beginCondition_44 at h
  by_cases c1 : (16 : Int32) ≤ (s.2.1 44 7)
  · rw [if_pos c1] at h
    have h := Option.some.inj h
    subst r
    exact ax_end 7 (And.intro (fun _ => rfl) (fun q => absurd c1 q))
  · rw [if_neg c1] at h
    by_cases c2 : ((s.2.1 44 7) < 0 ∨ 16 ≤ ((s.2.1 44 7)).toNatClampNeg)
    · rw [if_pos c2] at h; cases h
    · rw [if_neg c2] at h
      have h := Option.some.inj h
      subst r
      exact ax_end 14 (And.intro (fun q => absurd q c1) (fun _ => (And.intro c2 rfl)))
def XLa_endRule_44  (s : ax_S) : Option (ax_S) :=
  if (16 : Int32) ≤ (s.2.1 44 7) then (
    some s) else
  if ((s.2.1 44 7) < 0 ∨ 16 ≤ ((s.2.1 44 7)).toNatClampNeg) then none else
  some (ax_sI (ax_sI s 48 ((s.2.1 44 7)).toNatClampNeg (s.2.1 44 8)) 44 7 ((s.2.1 44 7) + (1 : Int32)))
theorem e_XLa_endRule_44 (d : Nat)  {s : ax_S} {r : ax_S} (h : XLa_endRule_44 s = some r) : ax_ev true (d + 1) 58 [.ref 44] s (none, r) := by
  refine ⟨Nat.le_of_ble_eq_true rfl, ?_⟩
  show ax_go true none (ax_ev true (d + 0)) ax_m58 0 [some (.ref 44)] [] s _
  unfold XLa_endRule_44 at h
  by_cases c1 : (16 : Int32) ≤ (s.2.1 44 7)
  · rw [if_pos c1] at h
    have h := Option.some.inj h
    subst r
    exact ax_end 7 (And.intro (fun _ => rfl) (fun q => absurd c1 q))
  · rw [if_neg c1] at h
    by_cases c2 : ((s.2.1 44 7) < 0 ∨ 16 ≤ ((s.2.1 44 7)).toNatClampNeg)
    · rw [if_pos c2] at h; cases h
    · rw [if_neg c2] at h
      refine ax_cut (pc' := 30) (la := [some (.ref 44)]) [none] (st' := [.int (s.2.1 44 7), .ref 44]) (σ' := (ax_sI s 48 ((s.2.1 44 7)).toNatClampNeg (s.2.1 44 8))) 16 (trivial) (fun _ hh => (And.intro (fun q => absurd q c1) (fun _ => (And.intro c2 hh)))) ?_
      have h := Option.some.inj h
      subst r
      exact ax_end 4 rfl
def XLaRe_readLine_j26 (y0 : Int32)  (s : ax_S) : Option (ax_S) :=
  if y0 = (99 : Int32) then (
    some s) else
  match XLaRe_rec 48 3 (0 : Int32) 0 s with
  | none => none
  | some s3 =>
    some s3
def XLaRe_readLine_j50 (y0 : Int32)  (s : ax_S) : Option (ax_S) :=
  if y0 = 0 then (
    some s) else
  match XLaRe_rec 48 0 (1 : Int32) 0 s with
  | none => none
  | some s8 =>
    match XTa_take (41 : Int32) s8 with
    | none => none
    | some (v9, s10) =>
      some s10
def XLaRe_readLine (x1 : Int32)  (s : ax_S) : Option (ax_S) :=
  match XTa_peek s with
  | none => none
  | some v1 =>
    match XLa_beginRule_44 v1 (XTa_step s) with
    | none => none
    | some s2 =>
      match XLaRe_readLine_j26 v1 s2 with
      | none => none
      | some s4 =>
        match XLa_beginCondition_44 s4 with
        | none => none
        | some s5 =>
          match XTa_take (40 : Int32) s5 with
          | none => none
          | some (v6, s7) =>
            match XLaRe_readLine_j50 v6 s7 with
            | none => none
            | some s11 =>
              match XLa_endRule_44 s11 with
              | none => none
              | some s12 =>
                some s12
theorem w_XLaRe_readLine_j26 (d : Nat) {o : ax_O} (y0 : Int32) (s : ax_S) (r : ax_S) (h : XLaRe_readLine_j26 y0 s = some r) (hk0 : ∀ (t0 : ax_S), r = t0 → ax_go true none (ax_ev true (d + 50)) ax_m46 34 [some (.ref 54), none, none] [] t0 o) : ax_go true none (ax_ev true (d + 50)) ax_m46 26 [some (.ref 54), none, none] [.int (99 : Int32), .int y0] s o := by
  unfold XLaRe_readLine_j26 at h
  by_cases c1 : y0 = (99 : Int32)
  · rw [if_pos c1] at h
    have h := Option.some.inj h
    subst r
    exact ax_cut (pc' := 34) (la := [some (.ref 54), none, none]) [some (.ref 54), none, none] (st' := []) (σ' := s) 1 (And.intro rfl (trivial)) (fun _ hh => (And.intro (fun _ => hh) (fun q => absurd c1 q))) (hk0 _ rfl)
  · rw [if_neg c1] at h
    cases hz2 : XLaRe_rec 48 3 (0 : Int32) 0 s with
    | none => rw [hz2] at h; cases h
    | some s3 =>
    rw [hz2] at h
    dsimp only at h
    have h := Option.some.inj h
    subst r
    exact ax_cut (pc' := 34) (la := [some (.ref 54), none, none]) [some (.ref 54), none, none] (st' := []) (σ' := s3) 4 (And.intro rfl (trivial)) (fun _ hh => (And.intro (fun q => absurd q c1) (fun _ => (Exists.intro (none, s3) (And.intro (e_XLaRe_rec d _ _ _ _ _ _ hz2) hh))))) (hk0 _ rfl)
theorem w_XLaRe_readLine_j50 (d : Nat) {o : ax_O} (y0 : Int32) (s : ax_S) (r : ax_S) (h : XLaRe_readLine_j50 y0 s = some r) (hk0 : ∀ (t0 : ax_S), r = t0 → ax_go true none (ax_ev true (d + 50)) ax_m46 68 [some (.ref 54), none, none] [] t0 o) : ax_go true none (ax_ev true (d + 50)) ax_m46 50 [some (.ref 54), none, none] [.int y0] s o := by
  unfold XLaRe_readLine_j50 at h
  by_cases c1 : y0 = 0
  · rw [if_pos c1] at h
    have h := Option.some.inj h
    subst r
    exact ax_cut (pc' := 68) (la := [some (.ref 54), none, none]) [some (.ref 54), none, none] (st' := []) (σ' := s) 1 (And.intro rfl (trivial)) (fun _ hh => (And.intro (fun _ => hh) (fun q => absurd c1 q))) (hk0 _ rfl)
  · rw [if_neg c1] at h
    cases hz2 : XLaRe_rec 48 0 (1 : Int32) 0 s with
    | none => rw [hz2] at h; cases h
    | some s8 =>
    rw [hz2] at h
    dsimp only at h
    cases hz3 : XTa_take (41 : Int32) s8 with
    | none => rw [hz3] at h; cases h
    | some z3 =>
    rw [hz3] at h
    obtain ⟨v9, s10⟩ := z3
    dsimp only at h
    have h := Option.some.inj h
    subst r
    exact ax_cut (pc' := 68) (la := [some (.ref 54), none, none]) [some (.ref 54), none, none] (st' := []) (σ' := s10) 9 (And.intro rfl (trivial)) (fun _ hh => (And.intro (fun q => absurd q c1) (fun _ => (Exists.intro (none, s8) (And.intro (e_XLaRe_rec d _ _ _ _ _ _ hz2) (Exists.intro (some (.int v9), s10) (And.intro (e_XTa_take (d + 48) hz3) hh))))))) (hk0 _ rfl)
theorem e_XLaRe_readLine (d : Nat) {x1 : Int32} {s : ax_S} {r : ax_S} (h : XLaRe_readLine x1 s = some r) : ax_ev true (d + 51) 46 [.ref 54, .int x1] s (none, r) := by
  refine ⟨Nat.le_of_ble_eq_true rfl, ?_⟩
  show ax_go true none (ax_ev true (d + 50)) ax_m46 0 [some (.ref 54), some (.int x1), none] [] s _
  unfold XLaRe_readLine at h
  cases hz1 : XTa_peek s with
  | none => rw [hz1] at h; cases h
  | some v1 =>
  rw [hz1] at h
  dsimp only at h
  cases hz2 : XLa_beginRule_44 v1 (XTa_step s) with
  | none => rw [hz2] at h; cases h
  | some s2 =>
  rw [hz2] at h
  dsimp only at h
  cases hz3 : XLaRe_readLine_j26 v1 s2 with
  | none => rw [hz3] at h; cases h
  | some z3 =>
  rw [hz3] at h
  refine ax_cut (pc' := 26) (la := [some (.ref 54), some (.int x1), some (.int v1)]) [some (.ref 54), none, none] (st' := [.int (99 : Int32), .int v1]) (σ' := s2) 13 (And.intro rfl (trivial)) (fun _ hh => (Exists.intro (some (.int v1), s) (And.intro (e_XTa_peek (d + 49) hz1) (Exists.intro (none, (XTa_step s)) (And.intro (e_XTa_step (d + 49)  s) (Exists.intro (none, s2) (And.intro (e_XLa_beginRule_44 (d + 49) hz2) hh))))))) (w_XLaRe_readLine_j26 d v1 s2 _ hz3 ?_)
  · intro s4 hq
    subst z3
    dsimp only at h
    cases hz4 : XLa_beginCondition_44 s4 with
    | none => rw [hz4] at h; cases h
    | some s5 =>
    rw [hz4] at h
    dsimp only at h
    cases hz5 : XTa_take (40 : Int32) s5 with
    | none => rw [hz5] at h; cases h
    | some z5 =>
    rw [hz5] at h
    obtain ⟨v6, s7⟩ := z5
    dsimp only at h
    cases hz6 : XLaRe_readLine_j50 v6 s7 with
    | none => rw [hz6] at h; cases h
    | some z6 =>
    rw [hz6] at h
    refine ax_cut (pc' := 50) (la := [some (.ref 54), none, none]) [some (.ref 54), none, none] (st' := [.int v6]) (σ' := s7) 7 (And.intro rfl (trivial)) (fun _ hh => (Exists.intro (none, s5) (And.intro (e_XLa_beginCondition_44 (d + 49) hz4) (Exists.intro (some (.int v6), s7) (And.intro (e_XTa_take (d + 48) hz5) hh))))) (w_XLaRe_readLine_j50 d v6 s7 _ hz6 ?_)
    · intro s11 hq
      subst z6
      dsimp only at h
      cases hz7 : XLa_endRule_44 s11 with
      | none => rw [hz7] at h; cases h
      | some s12 =>
      rw [hz7] at h
      dsimp only at h
      have h := Option.some.inj h
      subst r
      exact ax_end 4 (Exists.intro (none, s12) (And.intro (e_XLa_endRule_44 (d + 49) hz7) rfl))
def XTa_isFaulty  (s : ax_S) : Int32 :=
  if (s.2.1 1 5) = 0 then (
    (0 : Int32)) else
  (1 : Int32)
theorem e_XTa_isFaulty (d : Nat)  (s : ax_S) : ax_ev true (d + 1) 61 [.ref 1] s (some (.int (XTa_isFaulty s)), s) := by
  refine ⟨Nat.le_of_ble_eq_true rfl, ?_⟩
  generalize h : XTa_isFaulty s = r
  show ax_go true none (ax_ev true (d + 0)) ax_m61 0 [some (.ref 1)] [] s _
  unfold XTa_isFaulty at h
  by_cases c1 : (s.2.1 1 5) = 0
  · rw [if_pos c1] at h
    have h := h
    subst r
    exact ax_end 5 (And.intro (fun _ => (And.intro (Or.inl rfl) rfl)) (fun q => absurd c1 q))
  · rw [if_neg c1] at h
    have h := h
    subst r
    exact ax_end 6 (And.intro (fun q => absurd q c1) (fun _ => (And.intro (Or.inr rfl) rfl)))
def XTa_isAtEnd  (s : ax_S) : Int32 :=
  if (s.2.1 1 3) < (s.2.1 1 2) then (
    (0 : Int32)) else
  (1 : Int32)
theorem e_XTa_isAtEnd (d : Nat)  (s : ax_S) : ax_ev true (d + 1) 64 [.ref 1] s (some (.int (XTa_isAtEnd s)), s) := by
  refine ⟨Nat.le_of_ble_eq_true rfl, ?_⟩
  generalize h : XTa_isAtEnd s = r
  show ax_go true none (ax_ev true (d + 0)) ax_m64 0 [some (.ref 1)] [] s _
  unfold XTa_isAtEnd at h
  by_cases c1 : (s.2.1 1 3) < (s.2.1 1 2)
  · rw [if_pos c1] at h
    have h := h
    subst r
    exact ax_end 7 (And.intro (fun _ => (And.intro (Or.inl rfl) rfl)) (fun q => absurd c1 q))
  · rw [if_neg c1] at h
    have h := h
    subst r
    exact ax_end 8 (And.intro (fun q => absurd q c1) (fun _ => (And.intro (Or.inr rfl) rfl)))
def XLiRe_readLines_54_j29 (x2 : Int32) (y0 : Int32)  (s : ax_S) : Option (ax_S) :=
  if y0 = 0 then (
    some (XTa_refuse (1 : Int32) s)) else
  if x2 = (s.2.1 54 1) then (
    some (XTa_refuse (4 : Int32) s)) else
  match XLaRe_readLine x2 s with
  | none => none
  | some s2 =>
    some s2
def XLiRe_readLines_54_l10 : Nat → Int32 → ax_S → Option (Int32 × ax_S)
  | 0, _, _ => none
  | n + 1, x2, s =>
    if (s.2.1 54 1) < x2 then (
      some ((XTa_fault s), s)) else
    match XTa_peek s with
    | none => none
    | some v1 =>
      match XLiRe_readLines_54_j29 x2 (XLaRe_canBegin v1 s) s with
      | none => none
      | some s3 =>
        if (XTa_isFaulty s3) = 0 then (
          if (XTa_isAtEnd s3) = 0 then (
            match XTa_take (59 : Int32) s3 with
            | none => none
            | some (v4, s5) =>
              if v4 = 0 then (
                some ((XTa_fault s5), s5)) else
              XLiRe_readLines_54_l10 n (x2 + (1)) s5) else
          some ((x2 + (1 : Int32)), s3)) else
        some ((XTa_fault s3), s3)
def XLiRe_readLines_54 (x1 : Int32)  (s : ax_S) : Option (Int32 × ax_S) :=
  match XLiRe_readLines_54_l10 70000 (0 : Int32) (XTa_beginText x1 s) with
  | none => none
  | some r => some r
theorem w_XLiRe_readLines_54_j29 (d : Nat) {o : ax_O} (x2 : Int32) (y0 : Int32) (s : ax_S) (r : ax_S) (h : XLiRe_readLines_54_j29 x2 y0 s = some r) (hk0 : ∀ (t0 : ax_S), r = t0 → ax_go true none (ax_ev true (d + 51)) ax_m24 67 [some (.ref 54), none, some (.int x2)] [] t0 o) : ax_go true none (ax_ev true (d + 51)) ax_m24 29 [some (.ref 54), none, some (.int x2)] [.int y0] s o := by
  unfold XLiRe_readLines_54_j29 at h
  by_cases c1 : y0 = 0
  · rw [if_pos c1] at h
    have h := Option.some.inj h
    subst r
    exact ax_cut (pc' := 67) (la := [some (.ref 54), none, some (.int x2)]) [some (.ref 54), none, some (.int x2)] (st' := []) (σ' := (XTa_refuse (1 : Int32) s)) 6 (And.intro rfl (And.intro rfl (trivial))) (fun _ hh => (And.intro (fun q => absurd c1 q) (fun _ => (Exists.intro (none, (XTa_refuse (1 : Int32) s)) (And.intro (e_XTa_refuse (d + 49) (1 : Int32) s) hh))))) (hk0 _ rfl)
  · rw [if_neg c1] at h
    by_cases c2 : x2 = (s.2.1 54 1)
    · rw [if_pos c2] at h
      have h := Option.some.inj h
      subst r
      exact ax_cut (pc' := 67) (la := [some (.ref 54), none, some (.int x2)]) [some (.ref 54), none, some (.int x2)] (st' := []) (σ' := (XTa_refuse (4 : Int32) s)) 10 (And.intro rfl (And.intro rfl (trivial))) (fun _ hh => (And.intro (fun _ => (And.intro (fun q => absurd c2 q) (fun _ => (Exists.intro (none, (XTa_refuse (4 : Int32) s)) (And.intro (e_XTa_refuse (d + 49) (4 : Int32) s) hh))))) (fun q => absurd c1 q))) (hk0 _ rfl)
    · rw [if_neg c2] at h
      cases hz3 : XLaRe_readLine x2 s with
      | none => rw [hz3] at h; cases h
      | some s2 =>
      rw [hz3] at h
      dsimp only at h
      have h := Option.some.inj h
      subst r
      exact ax_cut (pc' := 67) (la := [some (.ref 54), none, some (.int x2)]) [some (.ref 54), none, some (.int x2)] (st' := []) (σ' := s2) 8 (And.intro rfl (And.intro rfl (trivial))) (fun _ hh => (And.intro (fun _ => (And.intro (fun _ => (Exists.intro (none, s2) (And.intro (e_XLaRe_readLine d hz3) hh))) (fun q => absurd c2 q))) (fun q => absurd c1 q))) (hk0 _ rfl)
theorem w_XLiRe_readLines_54_l10 (d : Nat) {o : ax_O} : ∀ (n : Nat) (x2 : Int32) (s : ax_S) (r : Int32 × ax_S) (h : XLiRe_readLines_54_l10 n x2 s = some r) (hkr : ∀ q, r = q → o = (some (.int q.1), q.2)), ax_go true none (ax_ev true (d + 51)) ax_m24 10 [some (.ref 54), none, some (.int x2)] [] s o := by
  intro n
  induction n with
  | zero => intro x2 s r h hkr; cases h
  | succ n ih =>
    intro x2 s r h hkr
    rw [XLiRe_readLines_54_l10] at h
    by_cases c1 : (s.2.1 54 1) < x2
    · rw [if_pos c1] at h
      have h := Option.some.inj h
      subst r
      exact ax_end 8 (And.intro (fun _ => (Exists.intro (some (.int (XTa_fault s)), s) (And.intro (e_XTa_fault (d + 50)  s) (hkr _ rfl)))) (fun q => absurd c1 q))
    · rw [if_neg c1] at h
      cases hz2 : XTa_peek s with
      | none => rw [hz2] at h; cases h
      | some v1 =>
      rw [hz2] at h
      dsimp only at h
      cases hz3 : XLiRe_readLines_54_j29 x2 (XLaRe_canBegin v1 s) s with
      | none => rw [hz3] at h; cases h
      | some z3 =>
      rw [hz3] at h
      refine ax_cut (pc' := 29) (la := [some (.ref 54), none, some (.int x2)]) [some (.ref 54), none, some (.int x2)] (st' := [.int (XLaRe_canBegin v1 s)]) (σ' := s) 9 (And.intro rfl (And.intro rfl (trivial))) (fun _ hh => (And.intro (fun q => absurd q c1) (fun _ => (Exists.intro (some (.int v1), s) (And.intro (e_XTa_peek (d + 50) hz2) (Exists.intro (some (.int (XLaRe_canBegin v1 s)), s) (And.intro (e_XLaRe_canBegin (d + 50) v1 s) hh))))))) (w_XLiRe_readLines_54_j29 d x2 (XLaRe_canBegin v1 s) s _ hz3 ?_)
      · intro s3 hq
        subst z3
        dsimp only at h
        by_cases c4 : (XTa_isFaulty s3) = 0
        · rw [if_pos c4] at h
          by_cases c5 : (XTa_isAtEnd s3) = 0
          · rw [if_pos c5] at h
            cases hz6 : XTa_take (59 : Int32) s3 with
            | none => rw [hz6] at h; cases h
            | some z6 =>
            rw [hz6] at h
            obtain ⟨v4, s5⟩ := z6
            dsimp only at h
            by_cases c7 : v4 = 0
            · rw [if_pos c7] at h
              refine ax_cut (pc' := 118) (la := [some (.ref 54), none, some (.int x2)]) [none, none, none] (st' := [.int (XTa_fault s5)]) (σ' := s5) 16 (trivial) (fun _ hh => (Exists.intro (some (.int (XTa_isFaulty s3)), s3) (And.intro (e_XTa_isFaulty (d + 50)  s3) (And.intro (fun _ => (Exists.intro (some (.int (XTa_isAtEnd s3)), s3) (And.intro (e_XTa_isAtEnd (d + 50)  s3) (And.intro (fun _ => (Exists.intro (some (.int v4), s5) (And.intro (e_XTa_take (d + 49) hz6) (And.intro (fun q => absurd c7 q) (fun _ => (Exists.intro (some (.int (XTa_fault s5)), s5) (And.intro (e_XTa_fault (d + 50)  s5) hh))))))) (fun q => absurd c5 q))))) (fun q => absurd c4 q))))) ?_
              have h := Option.some.inj h
              subst r
              exact ax_end 1 (hkr _ rfl)
            · rw [if_neg c7] at h
              exact ax_cut (pc' := 10) (la := [some (.ref 54), none, some (.int (x2 + (1)))]) [some (.ref 54), none, some (.int (x2 + (1)))] (st' := []) (σ' := s5) 15 (And.intro rfl (And.intro rfl (trivial))) (fun _ hh => (Exists.intro (some (.int (XTa_isFaulty s3)), s3) (And.intro (e_XTa_isFaulty (d + 50)  s3) (And.intro (fun _ => (Exists.intro (some (.int (XTa_isAtEnd s3)), s3) (And.intro (e_XTa_isAtEnd (d + 50)  s3) (And.intro (fun _ => (Exists.intro (some (.int v4), s5) (And.intro (e_XTa_take (d + 49) hz6) (And.intro (fun _ => hh) (fun q => absurd c7 q))))) (fun q => absurd c5 q))))) (fun q => absurd c4 q))))) (ih (x2 + (1)) s5 _ h hkr)
          · rw [if_neg c5] at h
            have h := Option.some.inj h
            subst r
            exact ax_end 12 (Exists.intro (some (.int (XTa_isFaulty s3)), s3) (And.intro (e_XTa_isFaulty (d + 50)  s3) (And.intro (fun _ => (Exists.intro (some (.int (XTa_isAtEnd s3)), s3) (And.intro (e_XTa_isAtEnd (d + 50)  s3) (And.intro (fun q => absurd q c5) (fun _ => (hkr _ rfl)))))) (fun q => absurd c4 q))))
        · rw [if_neg c4] at h
          have h := Option.some.inj h
          subst r
          exact ax_end 8 (Exists.intro (some (.int (XTa_isFaulty s3)), s3) (And.intro (e_XTa_isFaulty (d + 50)  s3) (And.intro (fun q => absurd q c4) (fun _ => (Exists.intro (some (.int (XTa_fault s3)), s3) (And.intro (e_XTa_fault (d + 50)  s3) (hkr _ rfl)))))))
theorem e_XLiRe_readLines_54 (d : Nat) {x1 : Int32} {s : ax_S} {r : Int32 × ax_S} (h : XLiRe_readLines_54 x1 s = some r) : ax_ev true (d + 52) 24 [.ref 54, .int x1] s (some (.int r.1), r.2) := by
  refine ⟨Nat.le_of_ble_eq_true rfl, ?_⟩
  show ax_go true none (ax_ev true (d + 51)) ax_m24 0 [some (.ref 54), some (.int x1), none] [] s _
  unfold XLiRe_readLines_54 at h
  cases hz1 : XLiRe_readLines_54_l10 70000 (0 : Int32) (XTa_beginText x1 s) with
  | none => rw [hz1] at h; cases h
  | some z1 =>
  rw [hz1] at h
  refine ax_cut (pc' := 10) (la := [some (.ref 54), some (.int x1), some (.int (0 : Int32))]) [some (.ref 54), none, some (.int (0 : Int32))] (st' := []) (σ' := (XTa_beginText x1 s)) 6 (And.intro rfl (And.intro rfl (trivial))) (fun _ hh => (Exists.intro (none, (XTa_beginText x1 s)) (And.intro (e_XTa_beginText (d + 50) x1 s) hh))) (w_XLiRe_readLines_54_l10 d 70000 (0 : Int32) (XTa_beginText x1 s) _ hz1 ?_)
  · intro q hq
    subst z1
    dsimp only at h
    cases h
    rfl
def XTa_clear  (s : ax_S) : ax_S :=
  (ax_sI s 1 1 (0 : Int32))
theorem e_XTa_clear (d : Nat)  (s : ax_S) : ax_ev true (d + 1) 65 [.ref 1] s (none, (XTa_clear s)) := by
  refine ⟨Nat.le_of_ble_eq_true rfl, ?_⟩
  generalize h : XTa_clear s = r
  show ax_go true none (ax_ev true (d + 0)) ax_m65 0 [some (.ref 1)] [] s _
  unfold XTa_clear at h
  have h := h
  subst r
  exact ax_end 4 rfl
def XLa_copyFrom_36_44  (s : ax_S) : ax_S :=
  (ax_sI (ax_sI (ax_sA (ax_sA (ax_sA (ax_sA (ax_sA (ax_sA s 37 (va_cpy (s.2.1 45) (s.2.1 37) 0 0 16)) 38 (va_cpy (s.2.1 46) (s.2.1 38) 0 0 16)) 39 (va_cpy (s.2.1 47) (s.2.1 39) 0 0 16)) 40 (va_cpy (s.2.1 48) (s.2.1 40) 0 0 16)) 41 (va_cpy (s.2.1 49) (s.2.1 41) 0 0 256)) 42 (va_cpy (s.2.1 50) (s.2.1 42) 0 0 256)) 36 7 (s.2.1 44 7)) 36 8 (s.2.1 44 8))
theorem e_XLa_copyFrom_36_44 (d : Nat)  (s : ax_S) : ax_ev true (d + 1) 66 [.ref 36, .ref 44] s (none, (XLa_copyFrom_36_44 s)) := by
  refine ⟨Nat.le_of_ble_eq_true rfl, ?_⟩
  generalize h : XLa_copyFrom_36_44 s = r
  show ax_go true none (ax_ev true (d + 0)) ax_m66 0 [some (.ref 36), some (.ref 44)] [] s _
  unfold XLa_copyFrom_36_44 at h
  refine ax_cut (pc' := 30) (la := [some (.ref 36), some (.ref 44)]) [some (.ref 36), some (.ref 44)] (st' := []) (σ' := (ax_sA (ax_sA s 37 (va_cpy (s.2.1 45) (s.2.1 37) 0 0 16)) 38 (va_cpy (s.2.1 46) (s.2.1 38) 0 0 16))) 16 (And.intro rfl (And.intro rfl (trivial))) (fun _ hh => (And.intro (show ¬ (0 : Int32) < 0 by decide) (And.intro (show ¬ (0 : Int32) < 0 by decide) (And.intro (show ¬ (16 : Int32) < 0 by decide) (And.intro (by decide) (And.intro (by decide) (And.intro (show ¬ (0 : Int32) < 0 by decide) (And.intro (show ¬ (0 : Int32) < 0 by decide) (And.intro (show ¬ (16 : Int32) < 0 by decide) (And.intro (by decide) (And.intro (by decide) hh))))))))))) ?_
  refine ax_cut (pc' := 60) (la := [some (.ref 36), some (.ref 44)]) [some (.ref 36), some (.ref 44)] (st' := []) (σ' := (ax_sA (ax_sA (ax_sA (ax_sA s 37 (va_cpy (s.2.1 45) (s.2.1 37) 0 0 16)) 38 (va_cpy (s.2.1 46) (s.2.1 38) 0 0 16)) 39 (va_cpy (s.2.1 47) (s.2.1 39) 0 0 16)) 40 (va_cpy (s.2.1 48) (s.2.1 40) 0 0 16))) 16 (And.intro rfl (And.intro rfl (trivial))) (fun _ hh => (And.intro (show ¬ (0 : Int32) < 0 by decide) (And.intro (show ¬ (0 : Int32) < 0 by decide) (And.intro (show ¬ (16 : Int32) < 0 by decide) (And.intro (by decide) (And.intro (by decide) (And.intro (show ¬ (0 : Int32) < 0 by decide) (And.intro (show ¬ (0 : Int32) < 0 by decide) (And.intro (show ¬ (16 : Int32) < 0 by decide) (And.intro (by decide) (And.intro (by decide) hh))))))))))) ?_
  refine ax_cut (pc' := 92) (la := [some (.ref 36), some (.ref 44)]) [some (.ref 36), some (.ref 44)] (st' := []) (σ' := (ax_sA (ax_sA (ax_sA (ax_sA (ax_sA (ax_sA s 37 (va_cpy (s.2.1 45) (s.2.1 37) 0 0 16)) 38 (va_cpy (s.2.1 46) (s.2.1 38) 0 0 16)) 39 (va_cpy (s.2.1 47) (s.2.1 39) 0 0 16)) 40 (va_cpy (s.2.1 48) (s.2.1 40) 0 0 16)) 41 (va_cpy (s.2.1 49) (s.2.1 41) 0 0 256)) 42 (va_cpy (s.2.1 50) (s.2.1 42) 0 0 256))) 16 (And.intro rfl (And.intro rfl (trivial))) (fun _ hh => (And.intro (show ¬ (0 : Int32) < 0 by decide) (And.intro (show ¬ (0 : Int32) < 0 by decide) (And.intro (show ¬ (256 : Int32) < 0 by decide) (And.intro (by decide) (And.intro (by decide) (And.intro (show ¬ (0 : Int32) < 0 by decide) (And.intro (show ¬ (0 : Int32) < 0 by decide) (And.intro (show ¬ (256 : Int32) < 0 by decide) (And.intro (by decide) (And.intro (by decide) hh))))))))))) ?_
  have h := h
  subst r
  exact ax_end 9 rfl
def X_law (x1 : Int32)  (s : ax_S) : Option (Int32 × ax_S) :=
  if (X_isWithin x1 (1 : Int32) (240 : Int32) s) = 0 then (
    some ((-1 : Int32), s)) else
  if (XTa_holds x1 s) = 0 then (
    some ((-1 : Int32), s)) else
  match XLiRe_readLines_54 x1 (XLa_clear_44 s) with
  | none => none
  | some (v1, s2) =>
    if v1 ≤ 0 then (
      some (v1, (XTa_clear s2))) else
    some (v1, (XLa_copyFrom_36_44 (XTa_clear s2)))
theorem e_X_law (d : Nat) {x1 : Int32} {s : ax_S} {r : Int32 × ax_S} (h : X_law x1 s = some r) : ax_ev true (d + 53) 21 [.ref 0, .int x1] s (some (.int r.1), r.2) := by
  refine ⟨Nat.le_of_ble_eq_true rfl, ?_⟩
  show ax_go true none (ax_ev true (d + 52)) ax_m21 0 [some (.ref 0), some (.int x1), none] [] s _
  unfold X_law at h
  by_cases c1 : (X_isWithin x1 (1 : Int32) (240 : Int32) s) = 0
  · rw [if_pos c1] at h
    have h := Option.some.inj h
    subst r
    exact ax_end 7 (Exists.intro (some (.int (X_isWithin x1 (1 : Int32) (240 : Int32) s)), s) (And.intro (e_X_isWithin (d + 51) x1 (1 : Int32) (240 : Int32) s) (And.intro (fun _ => rfl) (fun q => absurd c1 q))))
  · rw [if_neg c1] at h
    by_cases c2 : (XTa_holds x1 s) = 0
    · rw [if_pos c2] at h
      have h := Option.some.inj h
      subst r
      exact ax_end 12 (Exists.intro (some (.int (X_isWithin x1 (1 : Int32) (240 : Int32) s)), s) (And.intro (e_X_isWithin (d + 51) x1 (1 : Int32) (240 : Int32) s) (And.intro (fun q => absurd q c1) (fun _ => (Exists.intro (some (.int (XTa_holds x1 s)), s) (And.intro (e_XTa_holds (d + 51) x1 s) (And.intro (fun q => absurd c2 q) (fun _ => rfl))))))))
    · rw [if_neg c2] at h
      refine ax_cut (pc' := 36) (la := [some (.ref 0), some (.int x1), none]) [some (.ref 0), none, none] (st' := [.int x1, .ref 54]) (σ' := (XLa_clear_44 s)) 16 (And.intro rfl (trivial)) (fun _ hh => (Exists.intro (some (.int (X_isWithin x1 (1 : Int32) (240 : Int32) s)), s) (And.intro (e_X_isWithin (d + 51) x1 (1 : Int32) (240 : Int32) s) (And.intro (fun q => absurd q c1) (fun _ => (Exists.intro (some (.int (XTa_holds x1 s)), s) (And.intro (e_XTa_holds (d + 51) x1 s) (And.intro (fun _ => (Exists.intro (none, (XLa_clear_44 s)) (And.intro (e_XLa_clear_44 (d + 51)  s) hh))) (fun q => absurd c2 q))))))))) ?_
      cases hz3 : XLiRe_readLines_54 x1 (XLa_clear_44 s) with
      | none => rw [hz3] at h; cases h
      | some z3 =>
      rw [hz3] at h
      obtain ⟨v1, s2⟩ := z3
      dsimp only at h
      by_cases c4 : v1 ≤ 0
      · rw [if_pos c4] at h
        have h := Option.some.inj h
        subst r
        exact ax_end 9 (Exists.intro (some (.int v1), s2) (And.intro (e_XLiRe_readLines_54 d hz3) (Exists.intro (none, (XTa_clear s2)) (And.intro (e_XTa_clear (d + 51)  s2) (And.intro (fun _ => rfl) (fun q => absurd c4 q))))))
      · rw [if_neg c4] at h
        have h := Option.some.inj h
        subst r
        exact ax_end 14 (Exists.intro (some (.int v1), s2) (And.intro (e_XLiRe_readLines_54 d hz3) (Exists.intro (none, (XTa_clear s2)) (And.intro (e_XTa_clear (d + 51)  s2) (And.intro (fun q => absurd q c4) (fun _ => (Exists.intro (none, (XLa_copyFrom_36_44 (XTa_clear s2))) (And.intro (e_XLa_copyFrom_36_44 (d + 51)  (XTa_clear s2)) rfl))))))))
def M_beginsText (x1 : Int32)  (s : ax_S) : ax_S :=
  (ax_sI (ax_sI (ax_sI (ax_sI s 63 6 (0 : Int32)) 63 7 x1) 63 11 (0 : Int32)) 63 13 (0 : Int32))
theorem e_M_beginsText (d : Nat) (x1 : Int32) (s : ax_S) : ax_ev true (d + 1) 184 [.ref 63, .int x1] s (none, (M_beginsText x1 s)) := by
  refine ⟨Nat.le_of_ble_eq_true rfl, ?_⟩
  generalize h : M_beginsText x1 s = r
  show ax_go true none (ax_ev true (d + 0)) ax_m184 0 [some (.ref 63), some (.int x1)] [] s _
  unfold M_beginsText at h
  have h := h
  subst r
  exact ax_end 13 rfl
def M_here  (s : ax_S) : Option (Int32) :=
  if (s.2.1 63 7) ≤ (s.2.1 63 6) then (
    some (-1 : Int32)) else
  if ((s.2.1 63 6) < 0 ∨ 260 ≤ ((s.2.1 63 6)).toNatClampNeg) then none else
  some ((s.2.1 67 ((s.2.1 63 6)).toNatClampNeg) &&& (255 : Int32))
theorem e_M_here (d : Nat)  {s : ax_S} {r : Int32} (h : M_here s = some r) : ax_ev true (d + 1) 186 [.ref 63] s (some (.int r), s) := by
  refine ⟨Nat.le_of_ble_eq_true rfl, ?_⟩
  show ax_go true none (ax_ev true (d + 0)) ax_m186 0 [some (.ref 63)] [] s _
  unfold M_here at h
  by_cases c1 : (s.2.1 63 7) ≤ (s.2.1 63 6)
  · rw [if_pos c1] at h
    have h := Option.some.inj h
    subst r
    exact ax_end 7 (And.intro (fun _ => rfl) (fun q => absurd c1 q))
  · rw [if_neg c1] at h
    by_cases c2 : ((s.2.1 63 6) < 0 ∨ 260 ≤ ((s.2.1 63 6)).toNatClampNeg)
    · rw [if_pos c2] at h; cases h
    · rw [if_neg c2] at h
      have h := Option.some.inj h
      subst r
      exact ax_end 14 (And.intro (fun q => absurd q c1) (fun _ => (And.intro c2 rfl)))
def M_wrongAt (x1 : Int32) (x2 : Int32)  (s : ax_S) : Int32 × ax_S :=
  ((0 : Int32), (ax_sI s 63 8 (((-1000 : Int32) * x1) - x2)))
theorem e_M_wrongAt (d : Nat) (x1 : Int32) (x2 : Int32) (s : ax_S) : ax_ev true (d + 1) 187 [.ref 63, .int x1, .int x2] s (some (.int (M_wrongAt x1 x2 s).1), (M_wrongAt x1 x2 s).2) := by
  refine ⟨Nat.le_of_ble_eq_true rfl, ?_⟩
  generalize h : M_wrongAt x1 x2 s = r
  show ax_go true none (ax_ev true (d + 0)) ax_m187 0 [some (.ref 63), some (.int x1), some (.int x2)] [] s _
  unfold M_wrongAt at h
  have h := h
  subst r
  exact ax_end 9 (And.intro (Or.inl rfl) rfl)
def M_opens (x1 : Int32)  (s : ax_S) : Option (Int32 × ax_S) :=
  if (s.2.1 63 10) = (6 : Int32) then (
    some ((M_wrongAt (5 : Int32) (s.2.1 63 6) s).1, (M_wrongAt (5 : Int32) (s.2.1 63 6) s).2)) else
  if ((s.2.1 63 12) < 0 ∨ 260 ≤ ((s.2.1 63 12)).toNatClampNeg) then none else
  some ((1 : Int32), (ax_sI (ax_sI (ax_sI (ax_sI s 63 10 ((s.2.1 63 10) + (1 : Int32))) 69 ((s.2.1 63 12)).toNatClampNeg ((1048576 : Int32) * x1)) 63 12 ((s.2.1 63 12) + (1 : Int32))) 63 6 ((s.2.1 63 6) + (1 : Int32))))
theorem e_M_opens (d : Nat) {x1 : Int32} {s : ax_S} {r : Int32 × ax_S} (h : M_opens x1 s = some r) : ax_ev true (d + 2) 190 [.ref 63, .int x1] s (some (.int r.1), r.2) := by
  refine ⟨Nat.le_of_ble_eq_true rfl, ?_⟩
  show ax_go true none (ax_ev true (d + 1)) ax_m190 0 [some (.ref 63), some (.int x1)] [] s _
  unfold M_opens at h
  by_cases c1 : (s.2.1 63 10) = (6 : Int32)
  · rw [if_pos c1] at h
    have h := Option.some.inj h
    subst r
    exact ax_end 10 (And.intro (fun q => absurd c1 q) (fun _ => (Exists.intro (some (.int (M_wrongAt (5 : Int32) (s.2.1 63 6) s).1), (M_wrongAt (5 : Int32) (s.2.1 63 6) s).2) (And.intro (e_M_wrongAt d (5 : Int32) (s.2.1 63 6) s) (And.intro (ax_ev_bool rfl (e_M_wrongAt d (5 : Int32) (s.2.1 63 6) s)) rfl)))))
  · rw [if_neg c1] at h
    refine ax_cut (pc' := 40) (la := [some (.ref 63), some (.int x1)]) [some (.ref 63), none] (st' := [.int x1, .int (1048576 : Int32), .int (s.2.1 63 12), .ref 69]) (σ' := (ax_sI s 63 10 ((s.2.1 63 10) + (1 : Int32)))) 16 (And.intro rfl (trivial)) (fun _ hh => (And.intro (fun _ => hh) (fun q => absurd c1 q))) ?_
    by_cases c2 : ((s.2.1 63 12) < 0 ∨ 260 ≤ ((s.2.1 63 12)).toNatClampNeg)
    · rw [if_pos c2] at h; cases h
    · rw [if_neg c2] at h
      have h := Option.some.inj h
      subst r
      exact ax_end 16 (And.intro c2 (And.intro (Or.inr rfl) rfl))
def M_isDigit  (s : ax_S) : Option (Int32) :=
  match M_here s with
  | none => none
  | some v1 =>
    if v1 < (48 : Int32) then (
      some (0 : Int32)) else
    if (57 : Int32) < v1 then (
      some (0 : Int32)) else
    some (1 : Int32)
theorem e_M_isDigit (d : Nat)  {s : ax_S} {r : Int32} (h : M_isDigit s = some r) : ax_ev true (d + 2) 191 [.ref 63] s (some (.int r), s) := by
  refine ⟨Nat.le_of_ble_eq_true rfl, ?_⟩
  show ax_go true none (ax_ev true (d + 1)) ax_m191 0 [some (.ref 63)] [] s _
  unfold M_isDigit at h
  cases hz1 : M_here s with
  | none => rw [hz1] at h; cases h
  | some v1 =>
  rw [hz1] at h
  dsimp only at h
  by_cases c2 : v1 < (48 : Int32)
  · rw [if_pos c2] at h
    have h := Option.some.inj h
    subst r
    exact ax_end 6 (Exists.intro (some (.int v1), s) (And.intro (e_M_here d hz1) (And.intro (fun _ => (And.intro (Or.inl rfl) rfl)) (fun q => absurd c2 q))))
  · rw [if_neg c2] at h
    by_cases c3 : (57 : Int32) < v1
    · rw [if_pos c3] at h
      have h := Option.some.inj h
      subst r
      exact ax_end 10 (Exists.intro (some (.int v1), s) (And.intro (e_M_here d hz1) (And.intro (fun q => absurd q c2) (fun _ => (Exists.intro (some (.int v1), s) (And.intro (e_M_here d hz1) (And.intro (fun _ => (And.intro (Or.inl rfl) rfl)) (fun q => absurd c3 q))))))))
    · rw [if_neg c3] at h
      have h := Option.some.inj h
      subst r
      exact ax_end 11 (Exists.intro (some (.int v1), s) (And.intro (e_M_here d hz1) (And.intro (fun q => absurd q c2) (fun _ => (Exists.intro (some (.int v1), s) (And.intro (e_M_here d hz1) (And.intro (fun q => absurd q c3) (fun _ => (And.intro (Or.inr rfl) rfl)))))))))
def M_factOf (x0 : Int32)  (s : ax_S) : Int32 :=
  if x0 = (100) then (
    (4 : Int32)) else
  if x0 = (101) then (
    (-1 : Int32)) else
  if x0 = (102) then (
    (-1 : Int32)) else
  if x0 = (103) then (
    (-1 : Int32)) else
  if x0 = (104) then (
    (-1 : Int32)) else
  if x0 = (105) then (
    (-1 : Int32)) else
  if x0 = (106) then (
    (-1 : Int32)) else
  if x0 = (107) then (
    (-1 : Int32)) else
  if x0 = (108) then (
    (-1 : Int32)) else
  if x0 = (109) then (
    (-1 : Int32)) else
  if x0 = (110) then (
    (2 : Int32)) else
  if x0 = (111) then (
    (-1 : Int32)) else
  if x0 = (112) then (
    (0 : Int32)) else
  if x0 = (113) then (
    (-1 : Int32)) else
  if x0 = (114) then (
    (-1 : Int32)) else
  if x0 = (115) then (
    (3 : Int32)) else
  if x0 = (116) then (
    (5 : Int32)) else
  if x0 = (117) then (
    (-1 : Int32)) else
  if x0 = (118) then (
    (1 : Int32)) else
  (-1 : Int32)
theorem e_M_factOf (d : Nat) (x0 : Int32) (s : ax_S) : ax_ev true (d + 1) 194 [.int x0] s (some (.int (M_factOf x0 s)), s) := by
  refine ⟨Nat.le_of_ble_eq_true rfl, ?_⟩
  generalize h : M_factOf x0 s = r
  show ax_go true none (ax_ev true (d + 0)) ax_m194 0 [some (.int x0)] [] s _
  unfold M_factOf at h
  by_cases c1_0 : x0 = (100)
  · rw [if_pos c1_0] at h
    have h := h
    subst r
    exact ax_end 4 (ax_tabT (lo := 100) (hg := 118) (j0 := 0) (congrArg Int32.toInt c1_0) (by rw [c1_0]; decide) rfl)
  rw [if_neg c1_0] at h
  by_cases c1_1 : x0 = (101)
  · rw [if_pos c1_1] at h
    have h := h
    subst r
    exact ax_end 4 (ax_tabT (lo := 100) (hg := 118) (j0 := 1) (congrArg Int32.toInt c1_1) (by rw [c1_1]; decide) rfl)
  rw [if_neg c1_1] at h
  by_cases c1_2 : x0 = (102)
  · rw [if_pos c1_2] at h
    have h := h
    subst r
    exact ax_end 4 (ax_tabT (lo := 100) (hg := 118) (j0 := 2) (congrArg Int32.toInt c1_2) (by rw [c1_2]; decide) rfl)
  rw [if_neg c1_2] at h
  by_cases c1_3 : x0 = (103)
  · rw [if_pos c1_3] at h
    have h := h
    subst r
    exact ax_end 4 (ax_tabT (lo := 100) (hg := 118) (j0 := 3) (congrArg Int32.toInt c1_3) (by rw [c1_3]; decide) rfl)
  rw [if_neg c1_3] at h
  by_cases c1_4 : x0 = (104)
  · rw [if_pos c1_4] at h
    have h := h
    subst r
    exact ax_end 4 (ax_tabT (lo := 100) (hg := 118) (j0 := 4) (congrArg Int32.toInt c1_4) (by rw [c1_4]; decide) rfl)
  rw [if_neg c1_4] at h
  by_cases c1_5 : x0 = (105)
  · rw [if_pos c1_5] at h
    have h := h
    subst r
    exact ax_end 4 (ax_tabT (lo := 100) (hg := 118) (j0 := 5) (congrArg Int32.toInt c1_5) (by rw [c1_5]; decide) rfl)
  rw [if_neg c1_5] at h
  by_cases c1_6 : x0 = (106)
  · rw [if_pos c1_6] at h
    have h := h
    subst r
    exact ax_end 4 (ax_tabT (lo := 100) (hg := 118) (j0 := 6) (congrArg Int32.toInt c1_6) (by rw [c1_6]; decide) rfl)
  rw [if_neg c1_6] at h
  by_cases c1_7 : x0 = (107)
  · rw [if_pos c1_7] at h
    have h := h
    subst r
    exact ax_end 4 (ax_tabT (lo := 100) (hg := 118) (j0 := 7) (congrArg Int32.toInt c1_7) (by rw [c1_7]; decide) rfl)
  rw [if_neg c1_7] at h
  by_cases c1_8 : x0 = (108)
  · rw [if_pos c1_8] at h
    have h := h
    subst r
    exact ax_end 4 (ax_tabT (lo := 100) (hg := 118) (j0 := 8) (congrArg Int32.toInt c1_8) (by rw [c1_8]; decide) rfl)
  rw [if_neg c1_8] at h
  by_cases c1_9 : x0 = (109)
  · rw [if_pos c1_9] at h
    have h := h
    subst r
    exact ax_end 4 (ax_tabT (lo := 100) (hg := 118) (j0 := 9) (congrArg Int32.toInt c1_9) (by rw [c1_9]; decide) rfl)
  rw [if_neg c1_9] at h
  by_cases c1_10 : x0 = (110)
  · rw [if_pos c1_10] at h
    have h := h
    subst r
    exact ax_end 4 (ax_tabT (lo := 100) (hg := 118) (j0 := 10) (congrArg Int32.toInt c1_10) (by rw [c1_10]; decide) rfl)
  rw [if_neg c1_10] at h
  by_cases c1_11 : x0 = (111)
  · rw [if_pos c1_11] at h
    have h := h
    subst r
    exact ax_end 4 (ax_tabT (lo := 100) (hg := 118) (j0 := 11) (congrArg Int32.toInt c1_11) (by rw [c1_11]; decide) rfl)
  rw [if_neg c1_11] at h
  by_cases c1_12 : x0 = (112)
  · rw [if_pos c1_12] at h
    have h := h
    subst r
    exact ax_end 4 (ax_tabT (lo := 100) (hg := 118) (j0 := 12) (congrArg Int32.toInt c1_12) (by rw [c1_12]; decide) rfl)
  rw [if_neg c1_12] at h
  by_cases c1_13 : x0 = (113)
  · rw [if_pos c1_13] at h
    have h := h
    subst r
    exact ax_end 4 (ax_tabT (lo := 100) (hg := 118) (j0 := 13) (congrArg Int32.toInt c1_13) (by rw [c1_13]; decide) rfl)
  rw [if_neg c1_13] at h
  by_cases c1_14 : x0 = (114)
  · rw [if_pos c1_14] at h
    have h := h
    subst r
    exact ax_end 4 (ax_tabT (lo := 100) (hg := 118) (j0 := 14) (congrArg Int32.toInt c1_14) (by rw [c1_14]; decide) rfl)
  rw [if_neg c1_14] at h
  by_cases c1_15 : x0 = (115)
  · rw [if_pos c1_15] at h
    have h := h
    subst r
    exact ax_end 4 (ax_tabT (lo := 100) (hg := 118) (j0 := 15) (congrArg Int32.toInt c1_15) (by rw [c1_15]; decide) rfl)
  rw [if_neg c1_15] at h
  by_cases c1_16 : x0 = (116)
  · rw [if_pos c1_16] at h
    have h := h
    subst r
    exact ax_end 4 (ax_tabT (lo := 100) (hg := 118) (j0 := 16) (congrArg Int32.toInt c1_16) (by rw [c1_16]; decide) rfl)
  rw [if_neg c1_16] at h
  by_cases c1_17 : x0 = (117)
  · rw [if_pos c1_17] at h
    have h := h
    subst r
    exact ax_end 4 (ax_tabT (lo := 100) (hg := 118) (j0 := 17) (congrArg Int32.toInt c1_17) (by rw [c1_17]; decide) rfl)
  rw [if_neg c1_17] at h
  by_cases c1_18 : x0 = (118)
  · rw [if_pos c1_18] at h
    have h := h
    subst r
    exact ax_end 4 (ax_tabT (lo := 100) (hg := 118) (j0 := 18) (congrArg Int32.toInt c1_18) (by rw [c1_18]; decide) rfl)
  rw [if_neg c1_18] at h
  have c1_r : (x0).toInt < 100 ∨ 118 < (x0).toInt := by
    have := ax_ne_toInt c1_0
    have := ax_ne_toInt c1_1
    have := ax_ne_toInt c1_2
    have := ax_ne_toInt c1_3
    have := ax_ne_toInt c1_4
    have := ax_ne_toInt c1_5
    have := ax_ne_toInt c1_6
    have := ax_ne_toInt c1_7
    have := ax_ne_toInt c1_8
    have := ax_ne_toInt c1_9
    have := ax_ne_toInt c1_10
    have := ax_ne_toInt c1_11
    have := ax_ne_toInt c1_12
    have := ax_ne_toInt c1_13
    have := ax_ne_toInt c1_14
    have := ax_ne_toInt c1_15
    have := ax_ne_toInt c1_16
    have := ax_ne_toInt c1_17
    have := ax_ne_toInt c1_18
    simp only [show ∀ y : Int32, y.toInt = y.toInt from fun _ => rfl, show ((100) : Int32).toInt = 100 by decide, show ((101) : Int32).toInt = 101 by decide, show ((102) : Int32).toInt = 102 by decide, show ((103) : Int32).toInt = 103 by decide, show ((104) : Int32).toInt = 104 by decide, show ((105) : Int32).toInt = 105 by decide, show ((106) : Int32).toInt = 106 by decide, show ((107) : Int32).toInt = 107 by decide, show ((108) : Int32).toInt = 108 by decide, show ((109) : Int32).toInt = 109 by decide, show ((110) : Int32).toInt = 110 by decide, show ((111) : Int32).toInt = 111 by decide, show ((112) : Int32).toInt = 112 by decide, show ((113) : Int32).toInt = 113 by decide, show ((114) : Int32).toInt = 114 by decide, show ((115) : Int32).toInt = 115 by decide, show ((116) : Int32).toInt = 116 by decide, show ((117) : Int32).toInt = 117 by decide, show ((118) : Int32).toInt = 118 by decide] at *
    omega
  have h := h
  subst r
  exact ax_end 4 (ax_tabF (lo := 100) (hg := 118) rfl c1_r rfl)
def M_notes (x1 : Int32) (x2 : Int32)  (s : ax_S) : Option (ax_S) :=
  if ((s.2.1 63 11) < 0 ∨ 260 ≤ ((s.2.1 63 11)).toNatClampNeg) then none else
  some (ax_sI (ax_sI s 68 ((s.2.1 63 11)).toNatClampNeg (((1048576 : Int32) * x1) + x2)) 63 11 ((s.2.1 63 11) + (1 : Int32)))
theorem e_M_notes (d : Nat) {x1 : Int32} {x2 : Int32} {s : ax_S} {r : ax_S} (h : M_notes x1 x2 s = some r) : ax_ev true (d + 1) 193 [.ref 63, .int x1, .int x2] s (none, r) := by
  refine ⟨Nat.le_of_ble_eq_true rfl, ?_⟩
  show ax_go true none (ax_ev true (d + 0)) ax_m193 0 [some (.ref 63), some (.int x1), some (.int x2)] [] s _
  unfold M_notes at h
  by_cases c1 : ((s.2.1 63 11) < 0 ∨ 260 ≤ ((s.2.1 63 11)).toNatClampNeg)
  · rw [if_pos c1] at h; cases h
  · rw [if_neg c1] at h
    refine ax_cut (pc' := 25) (la := [some (.ref 63), some (.int x1), some (.int x2)]) [none, none, none] (st' := []) (σ' := (ax_sI (ax_sI s 68 ((s.2.1 63 11)).toNatClampNeg (((1048576 : Int32) * x1) + x2)) 63 11 ((s.2.1 63 11) + (1 : Int32)))) 16 (trivial) (fun _ hh => (And.intro c1 hh)) ?_
    have h := Option.some.inj h
    subst r
    exact ax_end 1 rfl
def M_readsNumber_l10 : Nat → Int32 → ax_S → Option (Int32 × ax_S)
  | 0, _, _ => none
  | n + 1, x1, s =>
    match M_isDigit s with
    | none => none
    | some v1 =>
      if v1 = 0 then (
        some ((1 : Int32), s)) else
      if (s.2.1 63 6) = (x1 + (5 : Int32)) then (
        some ((M_wrongAt (2 : Int32) (s.2.1 63 6) s).1, (M_wrongAt (2 : Int32) (s.2.1 63 6) s).2)) else
      match M_here s with
      | none => none
      | some v2 =>
        M_readsNumber_l10 n x1 (ax_sI (ax_sI s 63 9 ((((10 : Int32) * (s.2.1 63 9)) + v2) - (48 : Int32))) 63 6 ((s.2.1 63 6) + (1 : Int32)))
def M_readsNumber  (s : ax_S) : Option (Int32 × ax_S) :=
  match M_readsNumber_l10 70000 (s.2.1 63 6) (ax_sI s 63 9 (0 : Int32)) with
  | none => none
  | some r => some r
theorem w_M_readsNumber_l10 (d : Nat) {o : ax_O} : ∀ (n : Nat) (x1 : Int32) (s : ax_S) (r : Int32 × ax_S) (h : M_readsNumber_l10 n x1 s = some r) (hkr : ∀ q, r = q → o = (some (.int q.1), q.2)), ax_go true none (ax_ev true (d + 2)) ax_m192 10 [some (.ref 63), some (.int x1)] [] s o := by
  intro n
  induction n with
  | zero => intro x1 s r h hkr; cases h
  | succ n ih =>
    intro x1 s r h hkr
    rw [M_readsNumber_l10] at h
    cases hz1 : M_isDigit s with
    | none => rw [hz1] at h; cases h
    | some v1 =>
    rw [hz1] at h
    dsimp only at h
    by_cases c2 : v1 = 0
    · rw [if_pos c2] at h
      have h := Option.some.inj h
      subst r
      exact ax_end 5 (Exists.intro (some (.int v1), s) (And.intro (e_M_isDigit d hz1) (And.intro (fun _ => (And.intro (Or.inr rfl) (hkr _ rfl))) (fun q => absurd c2 q))))
    · rw [if_neg c2] at h
      by_cases c3 : (s.2.1 63 6) = (x1 + (5 : Int32))
      · rw [if_pos c3] at h
        have h := Option.some.inj h
        subst r
        exact ax_end 15 (Exists.intro (some (.int v1), s) (And.intro (e_M_isDigit d hz1) (And.intro (fun q => absurd q c2) (fun _ => (And.intro (fun q => absurd c3 q) (fun _ => (Exists.intro (some (.int (M_wrongAt (2 : Int32) (s.2.1 63 6) s).1), (M_wrongAt (2 : Int32) (s.2.1 63 6) s).2) (And.intro (e_M_wrongAt (d + 1) (2 : Int32) (s.2.1 63 6) s) (And.intro (ax_ev_bool rfl (e_M_wrongAt (d + 1) (2 : Int32) (s.2.1 63 6) s)) (hkr _ rfl))))))))))
      · rw [if_neg c3] at h
        cases hz4 : M_here s with
        | none => rw [hz4] at h; cases h
        | some v2 =>
        rw [hz4] at h
        dsimp only at h
        refine ax_cut (pc' := 49) (la := [some (.ref 63), some (.int x1)]) [some (.ref 63), some (.int x1)] (st' := [.int v2, .int ((10 : Int32) * (s.2.1 63 9)), .ref 63]) (σ' := s) 16 (And.intro rfl (And.intro rfl (trivial))) (fun _ hh => (Exists.intro (some (.int v1), s) (And.intro (e_M_isDigit d hz1) (And.intro (fun q => absurd q c2) (fun _ => (And.intro (fun _ => (Exists.intro (some (.int v2), s) (And.intro (e_M_here (d + 1) hz4) hh))) (fun q => absurd c3 q))))))) ?_
        exact ax_cut (pc' := 10) (la := [some (.ref 63), some (.int x1)]) [some (.ref 63), some (.int x1)] (st' := []) (σ' := (ax_sI (ax_sI s 63 9 ((((10 : Int32) * (s.2.1 63 9)) + v2) - (48 : Int32))) 63 6 ((s.2.1 63 6) + (1 : Int32)))) 11 (And.intro rfl (And.intro rfl (trivial))) (fun _ hh => hh) (ih x1 (ax_sI (ax_sI s 63 9 ((((10 : Int32) * (s.2.1 63 9)) + v2) - (48 : Int32))) 63 6 ((s.2.1 63 6) + (1 : Int32))) _ h hkr)
theorem e_M_readsNumber (d : Nat)  {s : ax_S} {r : Int32 × ax_S} (h : M_readsNumber s = some r) : ax_ev true (d + 3) 192 [.ref 63] s (some (.int r.1), r.2) := by
  refine ⟨Nat.le_of_ble_eq_true rfl, ?_⟩
  show ax_go true none (ax_ev true (d + 2)) ax_m192 0 [some (.ref 63), none] [] s _
  unfold M_readsNumber at h
  cases hz1 : M_readsNumber_l10 70000 (s.2.1 63 6) (ax_sI s 63 9 (0 : Int32)) with
  | none => rw [hz1] at h; cases h
  | some z1 =>
  rw [hz1] at h
  refine ax_cut (pc' := 10) (la := [some (.ref 63), some (.int (s.2.1 63 6))]) [some (.ref 63), some (.int (s.2.1 63 6))] (st' := []) (σ' := (ax_sI s 63 9 (0 : Int32))) 6 (And.intro rfl (And.intro rfl (trivial))) (fun _ hh => hh) (w_M_readsNumber_l10 d 70000 (s.2.1 63 6) (ax_sI s 63 9 (0 : Int32)) _ hz1 ?_)
  · intro q hq
    subst z1
    dsimp only at h
    cases h
    rfl
def M_readsFactor_l0 : Nat → ax_S → Option ((ax_S) ⊕ (Int32 × ax_S))
  | 0, _ => none
  | n + 1, s =>
    match M_here s with
    | none => none
    | some v1 =>
      if v1 = (91 : Int32) then (
        match M_opens (14 : Int32) s with
        | none => none
        | some (v2, s3) =>
          if v2 = 0 then (
            some (.inr ((0 : Int32), s3))) else
          M_readsFactor_l0 n s3) else
      some (.inl s)
def M_readsFactor  (s : ax_S) : Option (Int32 × ax_S) :=
  match M_readsFactor_l0 70000 s with
  | none => none
  | some (.inl s4) =>
    match M_isDigit s4 with
    | none => none
    | some v5 =>
      if v5 = 0 then (
        match M_here s4 with
        | none => none
        | some v6 =>
          if (M_factOf v6 s4) = (-1 : Int32) then (
            some ((M_wrongAt (1 : Int32) (s4.2.1 63 6) s4).1, (M_wrongAt (1 : Int32) (s4.2.1 63 6) s4).2)) else
          match M_notes (1 : Int32) (M_factOf v6 s4) s4 with
          | none => none
          | some s7 =>
            some ((1 : Int32), (ax_sI s7 63 6 ((s7.2.1 63 6) + (1 : Int32))))) else
      match M_readsNumber s4 with
      | none => none
      | some (v8, s9) =>
        if v8 = 0 then (
          some ((0 : Int32), s9)) else
        match M_notes (0 : Int32) (s9.2.1 63 9) s9 with
        | none => none
        | some s10 =>
          some ((1 : Int32), s10)
  | some (.inr r) => some r
theorem w_M_readsFactor_l0 (d : Nat) {o : ax_O} : ∀ (n : Nat) (s : ax_S) (r : (ax_S) ⊕ (Int32 × ax_S)) (h : M_readsFactor_l0 n s = some r) (hk0 : ∀ (t0 : ax_S), r = (.inl t0) → ax_go true none (ax_ev true (d + 3)) ax_m189 20 [some (.ref 63), none] [] t0 o) (hkr : ∀ q, r = (.inr q) → o = (some (.int q.1), q.2)), ax_go true none (ax_ev true (d + 3)) ax_m189 0 [some (.ref 63), none] [] s o := by
  intro n
  induction n with
  | zero => intro s r h hk0 hkr; cases h
  | succ n ih =>
    intro s r h hk0 hkr
    rw [M_readsFactor_l0] at h
    cases hz1 : M_here s with
    | none => rw [hz1] at h; cases h
    | some v1 =>
    rw [hz1] at h
    dsimp only at h
    by_cases c2 : v1 = (91 : Int32)
    · rw [if_pos c2] at h
      cases hz3 : M_opens (14 : Int32) s with
      | none => rw [hz3] at h; cases h
      | some z3 =>
      rw [hz3] at h
      obtain ⟨v2, s3⟩ := z3
      dsimp only at h
      by_cases c4 : v2 = 0
      · rw [if_pos c4] at h
        have h := Option.some.inj h
        subst r
        exact ax_end 10 (Exists.intro (some (.int v1), s) (And.intro (e_M_here (d + 2) hz1) (And.intro (fun q => absurd c2 q) (fun _ => (Exists.intro (some (.int v2), s3) (And.intro (e_M_opens (d + 1) hz3) (And.intro (fun q => absurd c4 q) (fun _ => (And.intro (Or.inl rfl) (hkr _ rfl))))))))))
      · rw [if_neg c4] at h
        exact ax_cut (pc' := 0) (la := [some (.ref 63), none]) [some (.ref 63), none] (st' := []) (σ' := s3) 8 (And.intro rfl (trivial)) (fun _ hh => (Exists.intro (some (.int v1), s) (And.intro (e_M_here (d + 2) hz1) (And.intro (fun q => absurd c2 q) (fun _ => (Exists.intro (some (.int v2), s3) (And.intro (e_M_opens (d + 1) hz3) (And.intro (fun _ => hh) (fun q => absurd c4 q))))))))) (ih  s3 _ h hk0 hkr)
    · rw [if_neg c2] at h
      have h := Option.some.inj h
      subst r
      exact ax_cut (pc' := 20) (la := [some (.ref 63), none]) [some (.ref 63), none] (st' := []) (σ' := s) 4 (And.intro rfl (trivial)) (fun _ hh => (Exists.intro (some (.int v1), s) (And.intro (e_M_here (d + 2) hz1) (And.intro (fun _ => hh) (fun q => absurd c2 q))))) (hk0 _ rfl)
theorem e_M_readsFactor (d : Nat)  {s : ax_S} {r : Int32 × ax_S} (h : M_readsFactor s = some r) : ax_ev true (d + 4) 189 [.ref 63] s (some (.int r.1), r.2) := by
  refine ⟨Nat.le_of_ble_eq_true rfl, ?_⟩
  show ax_go true none (ax_ev true (d + 3)) ax_m189 0 [some (.ref 63), none] [] s _
  unfold M_readsFactor at h
  cases hz1 : M_readsFactor_l0 70000 s with
  | none => rw [hz1] at h; cases h
  | some z1 =>
  rw [hz1] at h
  refine ax_cut (pc' := 0) (la := [some (.ref 63), none]) [some (.ref 63), none] (st' := []) (σ' := s) 0 (And.intro rfl (trivial)) (fun _ hh => hh) (w_M_readsFactor_l0 d 70000 s _ hz1 ?_ ?_)
  · intro s4 hq
    subst z1
    dsimp only at h
    cases hz2 : M_isDigit s4 with
    | none => rw [hz2] at h; cases h
    | some v5 =>
    rw [hz2] at h
    dsimp only at h
    by_cases c3 : v5 = 0
    · rw [if_pos c3] at h
      cases hz4 : M_here s4 with
      | none => rw [hz4] at h; cases h
      | some v6 =>
      rw [hz4] at h
      dsimp only at h
      by_cases c5 : (M_factOf v6 s4) = (-1 : Int32)
      · rw [if_pos c5] at h
        have h := Option.some.inj h
        subst r
        exact ax_end 16 (Exists.intro (some (.int v5), s4) (And.intro (e_M_isDigit (d + 1) hz2) (And.intro (fun _ => (Exists.intro (some (.int v6), s4) (And.intro (e_M_here (d + 2) hz4) (Exists.intro (some (.int (M_factOf v6 s4)), s4) (And.intro (e_M_factOf (d + 2) v6 s4) (And.intro (fun q => absurd c5 q) (fun _ => (Exists.intro (some (.int (M_wrongAt (1 : Int32) (s4.2.1 63 6) s4).1), (M_wrongAt (1 : Int32) (s4.2.1 63 6) s4).2) (And.intro (e_M_wrongAt (d + 2) (1 : Int32) (s4.2.1 63 6) s4) (And.intro (ax_ev_bool rfl (e_M_wrongAt (d + 2) (1 : Int32) (s4.2.1 63 6) s4)) rfl)))))))))) (fun q => absurd c3 q))))
      · rw [if_neg c5] at h
        cases hz6 : M_notes (1 : Int32) (M_factOf v6 s4) s4 with
        | none => rw [hz6] at h; cases h
        | some s7 =>
        rw [hz6] at h
        dsimp only at h
        refine ax_cut (pc' := 78) (la := [some (.ref 63), some (.int (M_factOf v6 s4))]) [none, none] (st' := [.ref 63, .ref 63]) (σ' := s7) 16 (trivial) (fun _ hh => (Exists.intro (some (.int v5), s4) (And.intro (e_M_isDigit (d + 1) hz2) (And.intro (fun _ => (Exists.intro (some (.int v6), s4) (And.intro (e_M_here (d + 2) hz4) (Exists.intro (some (.int (M_factOf v6 s4)), s4) (And.intro (e_M_factOf (d + 2) v6 s4) (And.intro (fun _ => (Exists.intro (none, s7) (And.intro (e_M_notes (d + 2) hz6) hh))) (fun q => absurd c5 q))))))) (fun q => absurd c3 q))))) ?_
        have h := Option.some.inj h
        subst r
        exact ax_end 6 (And.intro (Or.inr rfl) rfl)
    · rw [if_neg c3] at h
      cases hz7 : M_readsNumber s4 with
      | none => rw [hz7] at h; cases h
      | some z7 =>
      rw [hz7] at h
      obtain ⟨v8, s9⟩ := z7
      dsimp only at h
      by_cases c8 : v8 = 0
      · rw [if_pos c8] at h
        have h := Option.some.inj h
        subst r
        exact ax_end 8 (Exists.intro (some (.int v5), s4) (And.intro (e_M_isDigit (d + 1) hz2) (And.intro (fun q => absurd q c3) (fun _ => (Exists.intro (some (.int v8), s9) (And.intro (e_M_readsNumber d hz7) (And.intro (fun q => absurd c8 q) (fun _ => (And.intro (Or.inl rfl) rfl)))))))))
      · rw [if_neg c8] at h
        cases hz9 : M_notes (0 : Int32) (s9.2.1 63 9) s9 with
        | none => rw [hz9] at h; cases h
        | some s10 =>
        rw [hz9] at h
        dsimp only at h
        have h := Option.some.inj h
        subst r
        exact ax_end 13 (Exists.intro (some (.int v5), s4) (And.intro (e_M_isDigit (d + 1) hz2) (And.intro (fun q => absurd q c3) (fun _ => (Exists.intro (some (.int v8), s9) (And.intro (e_M_readsNumber d hz7) (And.intro (fun _ => (Exists.intro (none, s10) (And.intro (e_M_notes (d + 2) hz9) (And.intro (Or.inr rfl) rfl)))) (fun q => absurd c8 q))))))))
  · intro q hq
    subst z1
    dsimp only at h
    cases h
    rfl
def M_sumSign (x0 : Int32)  (s : ax_S) : Int32 :=
  if x0 = (43 : Int32) then (
    (2 : Int32)) else
  if x0 = (45 : Int32) then (
    (3 : Int32)) else
  if x0 = (42 : Int32) then (
    (4 : Int32)) else
  if x0 = (47 : Int32) then (
    (5 : Int32)) else
  if x0 = (37 : Int32) then (
    (6 : Int32)) else
  (-1 : Int32)
theorem e_M_sumSign (d : Nat) (x0 : Int32) (s : ax_S) : ax_ev true (d + 1) 195 [.int x0] s (some (.int (M_sumSign x0 s)), s) := by
  refine ⟨Nat.le_of_ble_eq_true rfl, ?_⟩
  generalize h : M_sumSign x0 s = r
  show ax_go true none (ax_ev true (d + 0)) ax_m195 0 [some (.int x0)] [] s _
  unfold M_sumSign at h
  by_cases c1 : x0 = (43 : Int32)
  · rw [if_pos c1] at h
    have h := h
    subst r
    exact ax_end 6 (And.intro (fun q => absurd c1 q) (fun _ => rfl))
  · rw [if_neg c1] at h
    by_cases c2 : x0 = (45 : Int32)
    · rw [if_pos c2] at h
      have h := h
      subst r
      exact ax_end 9 (And.intro (fun _ => (And.intro (fun q => absurd c2 q) (fun _ => rfl))) (fun q => absurd c1 q))
    · rw [if_neg c2] at h
      by_cases c3 : x0 = (42 : Int32)
      · rw [if_pos c3] at h
        have h := h
        subst r
        exact ax_end 12 (And.intro (fun _ => (And.intro (fun _ => (And.intro (fun q => absurd c3 q) (fun _ => rfl))) (fun q => absurd c2 q))) (fun q => absurd c1 q))
      · rw [if_neg c3] at h
        by_cases c4 : x0 = (47 : Int32)
        · rw [if_pos c4] at h
          have h := h
          subst r
          exact ax_end 15 (And.intro (fun _ => (And.intro (fun _ => (And.intro (fun _ => (And.intro (fun q => absurd c4 q) (fun _ => rfl))) (fun q => absurd c3 q))) (fun q => absurd c2 q))) (fun q => absurd c1 q))
        · rw [if_neg c4] at h
          by_cases c5 : x0 = (37 : Int32)
          · rw [if_pos c5] at h
            refine ax_cut (pc' := 48) (la := [some (.int x0)]) [none] (st' := [.int (6 : Int32)]) (σ' := s) 16 (trivial) (fun _ hh => (And.intro (fun _ => (And.intro (fun _ => (And.intro (fun _ => (And.intro (fun _ => (And.intro (fun q => absurd c5 q) (fun _ => hh))) (fun q => absurd c4 q))) (fun q => absurd c3 q))) (fun q => absurd c2 q))) (fun q => absurd c1 q))) ?_
            have h := h
            subst r
            exact ax_end 2 rfl
          · rw [if_neg c5] at h
            refine ax_cut (pc' := 52) (la := [some (.int x0)]) [none] (st' := [.int (-1 : Int32)]) (σ' := s) 16 (trivial) (fun _ hh => (And.intro (fun _ => (And.intro (fun _ => (And.intro (fun _ => (And.intro (fun _ => (And.intro (fun _ => hh) (fun q => absurd c5 q))) (fun q => absurd c4 q))) (fun q => absurd c3 q))) (fun q => absurd c2 q))) (fun q => absurd c1 q))) ?_
            have h := h
            subst r
            exact ax_end 1 rfl
def M_hasOpenSum_l2 : Nat → Int32 → ax_S → Option (Int32)
  | 0, _, _ => none
  | n + 1, x2, s =>
    if (s.2.1 63 12) ≤ x2 then (
      some (0 : Int32)) else
    if (x2 < 0 ∨ 260 ≤ (x2).toNatClampNeg) then none else
    if ((s.2.1 69 (x2).toNatClampNeg) / (1048576 : Int32)) = (14 : Int32) then (
      some (1 : Int32)) else
    M_hasOpenSum_l2 n (x2 + (1)) s
def M_hasOpenSum (x1 : Int32)  (s : ax_S) : Option (Int32) :=
  match M_hasOpenSum_l2 70000 x1 s with
  | none => none
  | some r => some r
theorem w_M_hasOpenSum_l2 (d : Nat) {o : ax_O} : ∀ (n : Nat) (x2 : Int32) (s : ax_S) (r : Int32) (h : M_hasOpenSum_l2 n x2 s = some r) (hkr : ∀ q, r = q → o = (some (.int q), s)), ax_go true none (ax_ev true (d + 0)) ax_m198 2 [some (.ref 63), none, some (.int x2)] [] s o := by
  intro n
  induction n with
  | zero => intro x2 s r h hkr; cases h
  | succ n ih =>
    intro x2 s r h hkr
    rw [M_hasOpenSum_l2] at h
    by_cases c1 : (s.2.1 63 12) ≤ x2
    · rw [if_pos c1] at h
      have h := Option.some.inj h
      subst r
      exact ax_end 6 (And.intro (fun _ => (And.intro (Or.inl rfl) (hkr _ rfl))) (fun q => absurd c1 q))
    · rw [if_neg c1] at h
      by_cases c2 : (x2 < 0 ∨ 260 ≤ (x2).toNatClampNeg)
      · rw [if_pos c2] at h; cases h
      · rw [if_neg c2] at h
        by_cases c3 : ((s.2.1 69 (x2).toNatClampNeg) / (1048576 : Int32)) = (14 : Int32)
        · rw [if_pos c3] at h
          have h := Option.some.inj h
          subst r
          exact ax_end 14 (And.intro (fun q => absurd q c1) (fun _ => (And.intro c2 (And.intro (show ¬ (1048576 : Int32) = 0 by decide) (And.intro (fun q => absurd c3 q) (fun _ => (And.intro (Or.inr rfl) (hkr _ rfl))))))))
        · rw [if_neg c3] at h
          exact ax_cut (pc' := 2) (la := [some (.ref 63), none, some (.int (x2 + (1)))]) [some (.ref 63), none, some (.int (x2 + (1)))] (st' := []) (σ' := s) 14 (And.intro rfl (And.intro rfl (trivial))) (fun _ hh => (And.intro (fun q => absurd q c1) (fun _ => (And.intro c2 (And.intro (show ¬ (1048576 : Int32) = 0 by decide) (And.intro (fun _ => hh) (fun q => absurd c3 q))))))) (ih (x2 + (1)) s _ h hkr)
theorem e_M_hasOpenSum (d : Nat) {x1 : Int32} {s : ax_S} {r : Int32} (h : M_hasOpenSum x1 s = some r) : ax_ev true (d + 1) 198 [.ref 63, .int x1] s (some (.int r), s) := by
  refine ⟨Nat.le_of_ble_eq_true rfl, ?_⟩
  show ax_go true none (ax_ev true (d + 0)) ax_m198 0 [some (.ref 63), some (.int x1), none] [] s _
  unfold M_hasOpenSum at h
  cases hz1 : M_hasOpenSum_l2 70000 x1 s with
  | none => rw [hz1] at h; cases h
  | some z1 =>
  rw [hz1] at h
  refine ax_cut (pc' := 2) (la := [some (.ref 63), some (.int x1), some (.int x1)]) [some (.ref 63), none, some (.int x1)] (st' := []) (σ' := s) 2 (And.intro rfl (And.intro rfl (trivial))) (fun _ hh => hh) (w_M_hasOpenSum_l2 d 70000 x1 s _ hz1 ?_)
  · intro q hq
    subst z1
    dsimp only at h
    cases h
    rfl
def M_waitTop  (s : ax_S) : Option (Int32) :=
  if (s.2.1 63 12) = 0 then (
    some (-1 : Int32)) else
  if (((s.2.1 63 12) - (1 : Int32)) < 0 ∨ 260 ≤ (((s.2.1 63 12) - (1 : Int32))).toNatClampNeg) then none else
  some ((s.2.1 69 (((s.2.1 63 12) - (1 : Int32))).toNatClampNeg) / (1048576 : Int32))
theorem e_M_waitTop (d : Nat)  {s : ax_S} {r : Int32} (h : M_waitTop s = some r) : ax_ev true (d + 1) 197 [.ref 63] s (some (.int r), s) := by
  refine ⟨Nat.le_of_ble_eq_true rfl, ?_⟩
  show ax_go true none (ax_ev true (d + 0)) ax_m197 0 [some (.ref 63)] [] s _
  unfold M_waitTop at h
  by_cases c1 : (s.2.1 63 12) = 0
  · rw [if_pos c1] at h
    have h := Option.some.inj h
    subst r
    exact ax_end 6 (And.intro (fun q => absurd c1 q) (fun _ => rfl))
  · rw [if_neg c1] at h
    by_cases c2 : (((s.2.1 63 12) - (1 : Int32)) < 0 ∨ 260 ≤ (((s.2.1 63 12) - (1 : Int32))).toNatClampNeg)
    · rw [if_pos c2] at h; cases h
    · rw [if_neg c2] at h
      have h := Option.some.inj h
      subst r
      exact ax_end 13 (And.intro (fun _ => (And.intro c2 (And.intro (show ¬ (1048576 : Int32) = 0 by decide) rfl))) (fun q => absurd c1 q))
def M_closesSums_l0 : Nat → Int32 → ax_S → Option (ax_S)
  | 0, _, _ => none
  | n + 1, x1, s =>
    match M_waitTop s with
    | none => none
    | some v1 =>
      if v1 < (4 : Int32) then (
        if x1 = 0 then (
          some s) else
        if v1 = (2 : Int32) then (
          match M_notes v1 (0 : Int32) s with
          | none => none
          | some s2 =>
            M_closesSums_l0 n x1 (ax_sI s2 63 12 ((s2.2.1 63 12) - (1 : Int32)))) else
        if v1 = (3 : Int32) then (
          match M_notes v1 (0 : Int32) s with
          | none => none
          | some s3 =>
            M_closesSums_l0 n x1 (ax_sI s3 63 12 ((s3.2.1 63 12) - (1 : Int32)))) else
        some s) else
      if v1 ≤ (6 : Int32) then (
        match M_notes v1 (0 : Int32) s with
        | none => none
        | some s4 =>
          M_closesSums_l0 n x1 (ax_sI s4 63 12 ((s4.2.1 63 12) - (1 : Int32)))) else
      if x1 = 0 then (
        some s) else
      if v1 = (2 : Int32) then (
        match M_notes v1 (0 : Int32) s with
        | none => none
        | some s5 =>
          M_closesSums_l0 n x1 (ax_sI s5 63 12 ((s5.2.1 63 12) - (1 : Int32)))) else
      if v1 = (3 : Int32) then (
        match M_notes v1 (0 : Int32) s with
        | none => none
        | some s6 =>
          M_closesSums_l0 n x1 (ax_sI s6 63 12 ((s6.2.1 63 12) - (1 : Int32)))) else
      some s
def M_closesSums (x1 : Int32)  (s : ax_S) : Option (ax_S) :=
  match M_closesSums_l0 70000 x1 s with
  | none => none
  | some s7 =>
    some s7
theorem w_M_closesSums_l0 (d : Nat) {o : ax_O} : ∀ (n : Nat) (x1 : Int32) (s : ax_S) (r : ax_S) (h : M_closesSums_l0 n x1 s = some r) (hk0 : ∀ (t0 : ax_S), r = t0 → ax_go true none (ax_ev true (d + 1)) ax_m196 59 [none, none] [] t0 o), ax_go true none (ax_ev true (d + 1)) ax_m196 0 [some (.ref 63), some (.int x1)] [] s o := by
  intro n
  induction n with
  | zero => intro x1 s r h hk0; cases h
  | succ n ih =>
    intro x1 s r h hk0
    rw [M_closesSums_l0] at h
    cases hz1 : M_waitTop s with
    | none => rw [hz1] at h; cases h
    | some v1 =>
    rw [hz1] at h
    dsimp only at h
    by_cases c2 : v1 < (4 : Int32)
    · rw [if_pos c2] at h
      by_cases c3 : x1 = 0
      · rw [if_pos c3] at h
        have h := Option.some.inj h
        subst r
        exact ax_cut (pc' := 59) (la := [some (.ref 63), some (.int x1)]) [none, none] (st' := []) (σ' := s) 6 (trivial) (fun _ hh => (Exists.intro (some (.int v1), s) (And.intro (e_M_waitTop d hz1) (And.intro (fun _ => (And.intro (fun _ => hh) (fun q => absurd c3 q))) (fun q => absurd c2 q))))) (hk0 _ rfl)
      · rw [if_neg c3] at h
        by_cases c4 : v1 = (2 : Int32)
        · rw [if_pos c4] at h
          cases hz5 : M_notes v1 (0 : Int32) s with
          | none => rw [hz5] at h; cases h
          | some s2 =>
          rw [hz5] at h
          dsimp only at h
          refine ax_cut (pc' := 47) (la := [some (.ref 63), some (.int x1)]) [some (.ref 63), some (.int x1)] (st' := [.ref 63]) (σ' := s2) 16 (And.intro rfl (And.intro rfl (trivial))) (fun _ hh => (Exists.intro (some (.int v1), s) (And.intro (e_M_waitTop d hz1) (And.intro (fun _ => (And.intro (fun q => absurd q c3) (fun _ => (Exists.intro (some (.int v1), s) (And.intro (e_M_waitTop d hz1) (And.intro (fun _ => (Exists.intro (some (.int v1), s) (And.intro (e_M_waitTop d hz1) (Exists.intro (none, s2) (And.intro (e_M_notes d hz5) hh))))) (fun q => absurd c4 q))))))) (fun q => absurd c2 q))))) ?_
          exact ax_cut (pc' := 0) (la := [some (.ref 63), some (.int x1)]) [some (.ref 63), some (.int x1)] (st' := []) (σ' := (ax_sI s2 63 12 ((s2.2.1 63 12) - (1 : Int32)))) 6 (And.intro rfl (And.intro rfl (trivial))) (fun _ hh => hh) (ih x1 (ax_sI s2 63 12 ((s2.2.1 63 12) - (1 : Int32))) _ h hk0)
        · rw [if_neg c4] at h
          by_cases c6 : v1 = (3 : Int32)
          · rw [if_pos c6] at h
            refine ax_cut (pc' := 39) (la := [some (.ref 63), some (.int x1)]) [some (.ref 63), some (.int x1)] (st' := [.ref 63, .ref 63]) (σ' := s) 16 (And.intro rfl (And.intro rfl (trivial))) (fun _ hh => (Exists.intro (some (.int v1), s) (And.intro (e_M_waitTop d hz1) (And.intro (fun _ => (And.intro (fun q => absurd q c3) (fun _ => (Exists.intro (some (.int v1), s) (And.intro (e_M_waitTop d hz1) (And.intro (fun q => absurd q c4) (fun _ => (Exists.intro (some (.int v1), s) (And.intro (e_M_waitTop d hz1) (And.intro (fun q => absurd c6 q) (fun _ => hh))))))))))) (fun q => absurd c2 q))))) ?_
            cases hz7 : M_notes v1 (0 : Int32) s with
            | none => rw [hz7] at h; cases h
            | some s3 =>
            rw [hz7] at h
            dsimp only at h
            exact ax_cut (pc' := 0) (la := [some (.ref 63), some (.int x1)]) [some (.ref 63), some (.int x1)] (st' := []) (σ' := (ax_sI s3 63 12 ((s3.2.1 63 12) - (1 : Int32)))) 10 (And.intro rfl (And.intro rfl (trivial))) (fun _ hh => (Exists.intro (some (.int v1), s) (And.intro (e_M_waitTop d hz1) (Exists.intro (none, s3) (And.intro (e_M_notes d hz7) hh))))) (ih x1 (ax_sI s3 63 12 ((s3.2.1 63 12) - (1 : Int32))) _ h hk0)
          · rw [if_neg c6] at h
            have h := Option.some.inj h
            subst r
            exact ax_cut (pc' := 59) (la := [some (.ref 63), some (.int x1)]) [none, none] (st' := []) (σ' := s) 14 (trivial) (fun _ hh => (Exists.intro (some (.int v1), s) (And.intro (e_M_waitTop d hz1) (And.intro (fun _ => (And.intro (fun q => absurd q c3) (fun _ => (Exists.intro (some (.int v1), s) (And.intro (e_M_waitTop d hz1) (And.intro (fun q => absurd q c4) (fun _ => (Exists.intro (some (.int v1), s) (And.intro (e_M_waitTop d hz1) (And.intro (fun _ => hh) (fun q => absurd c6 q))))))))))) (fun q => absurd c2 q))))) (hk0 _ rfl)
    · rw [if_neg c2] at h
      by_cases c8 : v1 ≤ (6 : Int32)
      · rw [if_pos c8] at h
        cases hz9 : M_notes v1 (0 : Int32) s with
        | none => rw [hz9] at h; cases h
        | some s4 =>
        rw [hz9] at h
        dsimp only at h
        refine ax_cut (pc' := 51) (la := [some (.ref 63), some (.int x1)]) [some (.ref 63), some (.int x1)] (st' := [.int (s4.2.1 63 12), .ref 63]) (σ' := s4) 16 (And.intro rfl (And.intro rfl (trivial))) (fun _ hh => (Exists.intro (some (.int v1), s) (And.intro (e_M_waitTop d hz1) (And.intro (fun q => absurd q c2) (fun _ => (Exists.intro (some (.int v1), s) (And.intro (e_M_waitTop d hz1) (And.intro (fun _ => (Exists.intro (some (.int v1), s) (And.intro (e_M_waitTop d hz1) (Exists.intro (none, s4) (And.intro (e_M_notes d hz9) hh))))) (fun q => absurd c8 q))))))))) ?_
        exact ax_cut (pc' := 0) (la := [some (.ref 63), some (.int x1)]) [some (.ref 63), some (.int x1)] (st' := []) (σ' := (ax_sI s4 63 12 ((s4.2.1 63 12) - (1 : Int32)))) 4 (And.intro rfl (And.intro rfl (trivial))) (fun _ hh => hh) (ih x1 (ax_sI s4 63 12 ((s4.2.1 63 12) - (1 : Int32))) _ h hk0)
      · rw [if_neg c8] at h
        by_cases c10 : x1 = 0
        · rw [if_pos c10] at h
          have h := Option.some.inj h
          subst r
          exact ax_cut (pc' := 59) (la := [some (.ref 63), some (.int x1)]) [none, none] (st' := []) (σ' := s) 10 (trivial) (fun _ hh => (Exists.intro (some (.int v1), s) (And.intro (e_M_waitTop d hz1) (And.intro (fun q => absurd q c2) (fun _ => (Exists.intro (some (.int v1), s) (And.intro (e_M_waitTop d hz1) (And.intro (fun q => absurd q c8) (fun _ => (And.intro (fun _ => hh) (fun q => absurd c10 q))))))))))) (hk0 _ rfl)
        · rw [if_neg c10] at h
          by_cases c11 : v1 = (2 : Int32)
          · rw [if_pos c11] at h
            refine ax_cut (pc' := 39) (la := [some (.ref 63), some (.int x1)]) [some (.ref 63), some (.int x1)] (st' := [.ref 63, .ref 63]) (σ' := s) 16 (And.intro rfl (And.intro rfl (trivial))) (fun _ hh => (Exists.intro (some (.int v1), s) (And.intro (e_M_waitTop d hz1) (And.intro (fun q => absurd q c2) (fun _ => (Exists.intro (some (.int v1), s) (And.intro (e_M_waitTop d hz1) (And.intro (fun q => absurd q c8) (fun _ => (And.intro (fun q => absurd q c10) (fun _ => (Exists.intro (some (.int v1), s) (And.intro (e_M_waitTop d hz1) (And.intro (fun _ => hh) (fun q => absurd c11 q))))))))))))))) ?_
            cases hz12 : M_notes v1 (0 : Int32) s with
            | none => rw [hz12] at h; cases h
            | some s5 =>
            rw [hz12] at h
            dsimp only at h
            exact ax_cut (pc' := 0) (la := [some (.ref 63), some (.int x1)]) [some (.ref 63), some (.int x1)] (st' := []) (σ' := (ax_sI s5 63 12 ((s5.2.1 63 12) - (1 : Int32)))) 10 (And.intro rfl (And.intro rfl (trivial))) (fun _ hh => (Exists.intro (some (.int v1), s) (And.intro (e_M_waitTop d hz1) (Exists.intro (none, s5) (And.intro (e_M_notes d hz12) hh))))) (ih x1 (ax_sI s5 63 12 ((s5.2.1 63 12) - (1 : Int32))) _ h hk0)
          · rw [if_neg c11] at h
            refine ax_cut (pc' := 33) (la := [some (.ref 63), some (.int x1)]) [some (.ref 63), some (.int x1)] (st' := [.int v1]) (σ' := s) 16 (And.intro rfl (And.intro rfl (trivial))) (fun _ hh => (Exists.intro (some (.int v1), s) (And.intro (e_M_waitTop d hz1) (And.intro (fun q => absurd q c2) (fun _ => (Exists.intro (some (.int v1), s) (And.intro (e_M_waitTop d hz1) (And.intro (fun q => absurd q c8) (fun _ => (And.intro (fun q => absurd q c10) (fun _ => (Exists.intro (some (.int v1), s) (And.intro (e_M_waitTop d hz1) (And.intro (fun q => absurd q c11) (fun _ => (Exists.intro (some (.int v1), s) (And.intro (e_M_waitTop d hz1) hh))))))))))))))))) ?_
            by_cases c13 : v1 = (3 : Int32)
            · rw [if_pos c13] at h
              cases hz14 : M_notes v1 (0 : Int32) s with
              | none => rw [hz14] at h; cases h
              | some s6 =>
              rw [hz14] at h
              dsimp only at h
              exact ax_cut (pc' := 0) (la := [some (.ref 63), some (.int x1)]) [some (.ref 63), some (.int x1)] (st' := []) (σ' := (ax_sI s6 63 12 ((s6.2.1 63 12) - (1 : Int32)))) 14 (And.intro rfl (And.intro rfl (trivial))) (fun _ hh => (And.intro (fun q => absurd c13 q) (fun _ => (Exists.intro (some (.int v1), s) (And.intro (e_M_waitTop d hz1) (Exists.intro (none, s6) (And.intro (e_M_notes d hz14) hh))))))) (ih x1 (ax_sI s6 63 12 ((s6.2.1 63 12) - (1 : Int32))) _ h hk0)
            · rw [if_neg c13] at h
              have h := Option.some.inj h
              subst r
              exact ax_cut (pc' := 59) (la := [some (.ref 63), some (.int x1)]) [none, none] (st' := []) (σ' := s) 2 (trivial) (fun _ hh => (And.intro (fun _ => hh) (fun q => absurd c13 q))) (hk0 _ rfl)
theorem e_M_closesSums (d : Nat) {x1 : Int32} {s : ax_S} {r : ax_S} (h : M_closesSums x1 s = some r) : ax_ev true (d + 2) 196 [.ref 63, .int x1] s (none, r) := by
  refine ⟨Nat.le_of_ble_eq_true rfl, ?_⟩
  show ax_go true none (ax_ev true (d + 1)) ax_m196 0 [some (.ref 63), some (.int x1)] [] s _
  unfold M_closesSums at h
  cases hz1 : M_closesSums_l0 70000 x1 s with
  | none => rw [hz1] at h; cases h
  | some z1 =>
  rw [hz1] at h
  refine ax_cut (pc' := 0) (la := [some (.ref 63), some (.int x1)]) [some (.ref 63), some (.int x1)] (st' := []) (σ' := s) 0 (And.intro rfl (And.intro rfl (trivial))) (fun _ hh => hh) (w_M_closesSums_l0 d 70000 x1 s _ hz1 ?_)
  · intro s7 hq
    subst z1
    dsimp only at h
    have h := Option.some.inj h
    subst r
    exact ax_end 1 rfl
def M_readsSum_j30 (x1 : Int32) (x2 : Int32) (y1 : Int32)  (s : ax_S) : Int32 :=
  if (4 : Int32) ≤ y1 then (
    (0 : Int32)) else
  (1 : Int32)
def M_readsSum_l14 : Nat → Int32 → ax_S → Option ((ax_S) ⊕ (Int32 × ax_S))
  | 0, _, _ => none
  | n + 1, x1, s =>
    match M_here s with
    | none => none
    | some v3 =>
      if (M_sumSign v3 s) = (-1 : Int32) then (
        if v3 = (93 : Int32) then (
          match M_hasOpenSum x1 s with
          | none => none
          | some v4 =>
            if v4 = 0 then (
              some (.inl s)) else
            match M_closesSums (1 : Int32) s with
            | none => none
            | some s5 =>
              M_readsSum_l14 n x1 (ax_sI (ax_sI (ax_sI s5 63 12 ((s5.2.1 63 12) - (1 : Int32))) 63 10 ((s5.2.1 63 10) - (1 : Int32))) 63 6 ((s5.2.1 63 6) + (1 : Int32)))) else
        some (.inl s)) else
      match M_closesSums (M_readsSum_j30 x1 (M_sumSign v3 s) (M_sumSign v3 s) s) s with
      | none => none
      | some s7 =>
        if ((s7.2.1 63 12) < 0 ∨ 260 ≤ ((s7.2.1 63 12)).toNatClampNeg) then none else
        match M_readsFactor (ax_sI (ax_sI (ax_sI s7 69 ((s7.2.1 63 12)).toNatClampNeg ((1048576 : Int32) * (M_sumSign v3 s))) 63 12 ((s7.2.1 63 12) + (1 : Int32))) 63 6 ((s7.2.1 63 6) + (1 : Int32))) with
        | none => none
        | some (v8, s9) =>
          if v8 = 0 then (
            some (.inr ((0 : Int32), s9))) else
          M_readsSum_l14 n x1 s9
def M_readsSum  (s : ax_S) : Option (Int32 × ax_S) :=
  match M_readsFactor s with
  | none => none
  | some (v1, s2) =>
    if v1 = 0 then (
      some ((0 : Int32), s2)) else
    match M_readsSum_l14 70000 (s.2.1 63 12) s2 with
    | none => none
    | some (.inl s10) =>
      match M_hasOpenSum (s.2.1 63 12) s10 with
      | none => none
      | some v11 =>
        if v11 = 0 then (
          match M_closesSums (1 : Int32) s10 with
          | none => none
          | some s12 =>
            some ((1 : Int32), s12)) else
        some ((M_wrongAt (1 : Int32) (s10.2.1 63 6) s10).1, (M_wrongAt (1 : Int32) (s10.2.1 63 6) s10).2)
    | some (.inr r) => some r
theorem w_M_readsSum_j30 (d : Nat) {o : ax_O} (x1 : Int32) (x2 : Int32) (y1 : Int32) (s : ax_S) (r : Int32) (h : M_readsSum_j30 x1 x2 y1 s = r) (hk0 : ∀ (t0 : Int32), r = t0 → ax_go true none (ax_ev true (d + 4)) ax_m188 38 [some (.ref 63), some (.int x1), some (.int x2)] [.int t0, .ref 63] s o) : ax_go true none (ax_ev true (d + 4)) ax_m188 30 [some (.ref 63), some (.int x1), some (.int x2)] [.int (4 : Int32), .int y1, .ref 63] s o := by
  unfold M_readsSum_j30 at h
  by_cases c1 : (4 : Int32) ≤ y1
  · rw [if_pos c1] at h
    have h := h
    subst r
    exact ax_cut (pc' := 38) (la := [some (.ref 63), some (.int x1), some (.int x2)]) [some (.ref 63), some (.int x1), some (.int x2)] (st' := [.int (0 : Int32), .ref 63]) (σ' := s) 2 (And.intro rfl (And.intro rfl (And.intro rfl (trivial)))) (fun _ hh => (And.intro (fun _ => hh) (fun q => absurd c1 q))) (hk0 _ rfl)
  · rw [if_neg c1] at h
    have h := h
    subst r
    exact ax_cut (pc' := 38) (la := [some (.ref 63), some (.int x1), some (.int x2)]) [some (.ref 63), some (.int x1), some (.int x2)] (st' := [.int (1 : Int32), .ref 63]) (σ' := s) 3 (And.intro rfl (And.intro rfl (And.intro rfl (trivial)))) (fun _ hh => (And.intro (fun q => absurd q c1) (fun _ => hh))) (hk0 _ rfl)
theorem w_M_readsSum_l14 (d : Nat) {o : ax_O} : ∀ (n : Nat) (x1 : Int32) (s : ax_S) (r : (ax_S) ⊕ (Int32 × ax_S)) (h : M_readsSum_l14 n x1 s = some r) (hk0 : ∀ (t0 : ax_S), r = (.inl t0) → ax_go true none (ax_ev true (d + 4)) ax_m188 138 [some (.ref 63), some (.int x1), none] [] t0 o) (hkr : ∀ q, r = (.inr q) → o = (some (.int q.1), q.2)), ax_go true none (ax_ev true (d + 4)) ax_m188 14 [some (.ref 63), some (.int x1), none] [] s o := by
  intro n
  induction n with
  | zero => intro x1 s r h hk0 hkr; cases h
  | succ n ih =>
    intro x1 s r h hk0 hkr
    rw [M_readsSum_l14] at h
    cases hz1 : M_here s with
    | none => rw [hz1] at h; cases h
    | some v3 =>
    rw [hz1] at h
    dsimp only at h
    by_cases c2 : (M_sumSign v3 s) = (-1 : Int32)
    · rw [if_pos c2] at h
      by_cases c3 : v3 = (93 : Int32)
      · rw [if_pos c3] at h
        cases hz4 : M_hasOpenSum x1 s with
        | none => rw [hz4] at h; cases h
        | some v4 =>
        rw [hz4] at h
        dsimp only at h
        by_cases c5 : v4 = 0
        · rw [if_pos c5] at h
          have h := Option.some.inj h
          subst r
          exact ax_cut (pc' := 138) (la := [some (.ref 63), some (.int x1), some (.int (M_sumSign v3 s))]) [some (.ref 63), some (.int x1), none] (st' := []) (σ' := s) 15 (And.intro rfl (And.intro rfl (trivial))) (fun _ hh => (Exists.intro (some (.int v3), s) (And.intro (e_M_here (d + 3) hz1) (Exists.intro (some (.int (M_sumSign v3 s)), s) (And.intro (e_M_sumSign (d + 3) v3 s) (And.intro (fun _ => (Exists.intro (some (.int v3), s) (And.intro (e_M_here (d + 3) hz1) (And.intro (fun q => absurd c3 q) (fun _ => (Exists.intro (some (.int v4), s) (And.intro (e_M_hasOpenSum (d + 3) hz4) (And.intro (fun _ => hh) (fun q => absurd c5 q))))))))) (fun q => absurd c2 q))))))) (hk0 _ rfl)
        · rw [if_neg c5] at h
          refine ax_cut (pc' := 101) (la := [some (.ref 63), some (.int x1), some (.int (M_sumSign v3 s))]) [some (.ref 63), some (.int x1), none] (st' := [.ref 63]) (σ' := s) 16 (And.intro rfl (And.intro rfl (trivial))) (fun _ hh => (Exists.intro (some (.int v3), s) (And.intro (e_M_here (d + 3) hz1) (Exists.intro (some (.int (M_sumSign v3 s)), s) (And.intro (e_M_sumSign (d + 3) v3 s) (And.intro (fun _ => (Exists.intro (some (.int v3), s) (And.intro (e_M_here (d + 3) hz1) (And.intro (fun q => absurd c3 q) (fun _ => (Exists.intro (some (.int v4), s) (And.intro (e_M_hasOpenSum (d + 3) hz4) (And.intro (fun q => absurd q c5) (fun _ => hh))))))))) (fun q => absurd c2 q))))))) ?_
          cases hz6 : M_closesSums (1 : Int32) s with
          | none => rw [hz6] at h; cases h
          | some s5 =>
          rw [hz6] at h
          dsimp only at h
          refine ax_cut (pc' := 127) (la := [some (.ref 63), some (.int x1), none]) [some (.ref 63), some (.int x1), none] (st' := [.ref 63, .ref 63]) (σ' := (ax_sI (ax_sI s5 63 12 ((s5.2.1 63 12) - (1 : Int32))) 63 10 ((s5.2.1 63 10) - (1 : Int32)))) 16 (And.intro rfl (And.intro rfl (trivial))) (fun _ hh => (Exists.intro (none, s5) (And.intro (e_M_closesSums (d + 2) hz6) hh))) ?_
          exact ax_cut (pc' := 14) (la := [some (.ref 63), some (.int x1), none]) [some (.ref 63), some (.int x1), none] (st' := []) (σ' := (ax_sI (ax_sI (ax_sI s5 63 12 ((s5.2.1 63 12) - (1 : Int32))) 63 10 ((s5.2.1 63 10) - (1 : Int32))) 63 6 ((s5.2.1 63 6) + (1 : Int32)))) 6 (And.intro rfl (And.intro rfl (trivial))) (fun _ hh => hh) (ih x1 (ax_sI (ax_sI (ax_sI s5 63 12 ((s5.2.1 63 12) - (1 : Int32))) 63 10 ((s5.2.1 63 10) - (1 : Int32))) 63 6 ((s5.2.1 63 6) + (1 : Int32))) _ h hk0 hkr)
      · rw [if_neg c3] at h
        have h := Option.some.inj h
        subst r
        exact ax_cut (pc' := 138) (la := [some (.ref 63), some (.int x1), some (.int (M_sumSign v3 s))]) [some (.ref 63), some (.int x1), none] (st' := []) (σ' := s) 11 (And.intro rfl (And.intro rfl (trivial))) (fun _ hh => (Exists.intro (some (.int v3), s) (And.intro (e_M_here (d + 3) hz1) (Exists.intro (some (.int (M_sumSign v3 s)), s) (And.intro (e_M_sumSign (d + 3) v3 s) (And.intro (fun _ => (Exists.intro (some (.int v3), s) (And.intro (e_M_here (d + 3) hz1) (And.intro (fun _ => hh) (fun q => absurd c3 q))))) (fun q => absurd c2 q))))))) (hk0 _ rfl)
    · rw [if_neg c2] at h
      refine ax_cut (pc' := 30) (la := [some (.ref 63), some (.int x1), some (.int (M_sumSign v3 s))]) [some (.ref 63), some (.int x1), some (.int (M_sumSign v3 s))] (st' := [.int (4 : Int32), .int (M_sumSign v3 s), .ref 63]) (σ' := s) 10 (And.intro rfl (And.intro rfl (And.intro rfl (trivial)))) (fun _ hh => (Exists.intro (some (.int v3), s) (And.intro (e_M_here (d + 3) hz1) (Exists.intro (some (.int (M_sumSign v3 s)), s) (And.intro (e_M_sumSign (d + 3) v3 s) (And.intro (fun q => absurd q c2) (fun _ => hh))))))) (w_M_readsSum_j30 d x1 (M_sumSign v3 s) (M_sumSign v3 s) s _ rfl (fun v6 hq => ?_))
      obtain rfl : v6 = (M_readsSum_j30 x1 (M_sumSign v3 s) (M_sumSign v3 s) s) := hq.symm
      cases hz7 : M_closesSums (M_readsSum_j30 x1 (M_sumSign v3 s) (M_sumSign v3 s) s) s with
      | none => rw [hz7] at h; cases h
      | some s7 =>
      rw [hz7] at h
      dsimp only at h
      by_cases c8 : ((s7.2.1 63 12) < 0 ∨ 260 ≤ ((s7.2.1 63 12)).toNatClampNeg)
      · rw [if_pos c8] at h; cases h
      · rw [if_neg c8] at h
        refine ax_cut (pc' := 65) (la := [some (.ref 63), some (.int x1), some (.int (M_sumSign v3 s))]) [some (.ref 63), some (.int x1), none] (st' := [.ref 63]) (σ' := (ax_sI (ax_sI s7 69 ((s7.2.1 63 12)).toNatClampNeg ((1048576 : Int32) * (M_sumSign v3 s))) 63 12 ((s7.2.1 63 12) + (1 : Int32)))) 16 (And.intro rfl (And.intro rfl (trivial))) (fun _ hh => (Exists.intro (none, s7) (And.intro (e_M_closesSums (d + 2) hz7) (And.intro c8 hh)))) ?_
        cases hz9 : M_readsFactor (ax_sI (ax_sI (ax_sI s7 69 ((s7.2.1 63 12)).toNatClampNeg ((1048576 : Int32) * (M_sumSign v3 s))) 63 12 ((s7.2.1 63 12) + (1 : Int32))) 63 6 ((s7.2.1 63 6) + (1 : Int32))) with
        | none => rw [hz9] at h; cases h
        | some z9 =>
        rw [hz9] at h
        obtain ⟨v8, s9⟩ := z9
        dsimp only at h
        by_cases c10 : v8 = 0
        · rw [if_pos c10] at h
          have h := Option.some.inj h
          subst r
          exact ax_end 10 (Exists.intro (some (.int v8), s9) (And.intro (e_M_readsFactor d hz9) (And.intro (fun q => absurd c10 q) (fun _ => (And.intro (Or.inl rfl) (hkr _ rfl))))))
        · rw [if_neg c10] at h
          exact ax_cut (pc' := 14) (la := [some (.ref 63), some (.int x1), none]) [some (.ref 63), some (.int x1), none] (st' := []) (σ' := s9) 9 (And.intro rfl (And.intro rfl (trivial))) (fun _ hh => (Exists.intro (some (.int v8), s9) (And.intro (e_M_readsFactor d hz9) (And.intro (fun _ => hh) (fun q => absurd c10 q))))) (ih x1 s9 _ h hk0 hkr)
theorem e_M_readsSum (d : Nat)  {s : ax_S} {r : Int32 × ax_S} (h : M_readsSum s = some r) : ax_ev true (d + 5) 188 [.ref 63] s (some (.int r.1), r.2) := by
  refine ⟨Nat.le_of_ble_eq_true rfl, ?_⟩
  show ax_go true none (ax_ev true (d + 4)) ax_m188 0 [some (.ref 63), none, none] [] s _
  unfold M_readsSum at h
  cases hz1 : M_readsFactor s with
  | none => rw [hz1] at h; cases h
  | some z1 =>
  rw [hz1] at h
  obtain ⟨v1, s2⟩ := z1
  dsimp only at h
  by_cases c2 : v1 = 0
  · rw [if_pos c2] at h
    have h := Option.some.inj h
    subst r
    exact ax_end 8 (Exists.intro (some (.int v1), s2) (And.intro (e_M_readsFactor d hz1) (And.intro (fun q => absurd c2 q) (fun _ => (And.intro (Or.inl rfl) rfl)))))
  · rw [if_neg c2] at h
    cases hz3 : M_readsSum_l14 70000 (s.2.1 63 12) s2 with
    | none => rw [hz3] at h; cases h
    | some z3 =>
    rw [hz3] at h
    refine ax_cut (pc' := 14) (la := [some (.ref 63), some (.int (s.2.1 63 12)), none]) [some (.ref 63), some (.int (s.2.1 63 12)), none] (st' := []) (σ' := s2) 6 (And.intro rfl (And.intro rfl (trivial))) (fun _ hh => (Exists.intro (some (.int v1), s2) (And.intro (e_M_readsFactor d hz1) (And.intro (fun _ => hh) (fun q => absurd c2 q))))) (w_M_readsSum_l14 d 70000 (s.2.1 63 12) s2 _ hz3 ?_ ?_)
    · intro s10 hq
      subst z3
      dsimp only at h
      cases hz4 : M_hasOpenSum (s.2.1 63 12) s10 with
      | none => rw [hz4] at h; cases h
      | some v11 =>
      rw [hz4] at h
      dsimp only at h
      by_cases c5 : v11 = 0
      · rw [if_pos c5] at h
        cases hz6 : M_closesSums (1 : Int32) s10 with
        | none => rw [hz6] at h; cases h
        | some s12 =>
        rw [hz6] at h
        dsimp only at h
        have h := Option.some.inj h
        subst r
        exact ax_end 9 (Exists.intro (some (.int v11), s10) (And.intro (e_M_hasOpenSum (d + 3) hz4) (And.intro (fun _ => (Exists.intro (none, s12) (And.intro (e_M_closesSums (d + 2) hz6) (And.intro (Or.inr rfl) rfl)))) (fun q => absurd c5 q))))
      · rw [if_neg c5] at h
        have h := Option.some.inj h
        subst r
        exact ax_end 10 (Exists.intro (some (.int v11), s10) (And.intro (e_M_hasOpenSum (d + 3) hz4) (And.intro (fun q => absurd q c5) (fun _ => (Exists.intro (some (.int (M_wrongAt (1 : Int32) (s10.2.1 63 6) s10).1), (M_wrongAt (1 : Int32) (s10.2.1 63 6) s10).2) (And.intro (e_M_wrongAt (d + 3) (1 : Int32) (s10.2.1 63 6) s10) (And.intro (ax_ev_bool rfl (e_M_wrongAt (d + 3) (1 : Int32) (s10.2.1 63 6) s10)) rfl)))))))
    · intro q hq
      subst z3
      dsimp only at h
      cases h
      rfl
