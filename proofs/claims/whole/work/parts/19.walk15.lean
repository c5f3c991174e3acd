def XSh_lengthOf_l5 : Nat → Int32 → Int32 → Int32 → Int32 → ax_S → Option (Int32)
  | 0, _, _, _, _, _ => none
  | n + 1, x1, x2, x3, x4, s =>
    if x2 ≤ x4 then (
      some x3) else
    if ((x1 >>> (x4 &&& 31)) &&& (1 : Int32)) = (1 : Int32) then (
      match XTa_byteAt x4 s with
      | none => none
      | some v1 =>
        XSh_lengthOf_l5 n x1 x2 (x3 + v1) (x4 + (1)) s) else
    XSh_lengthOf_l5 n x1 x2 x3 (x4 + (1)) s
def XSh_lengthOf (x1 : Int32) (x2 : Int32)  (s : ax_S) : Option (Int32) :=
  match XSh_lengthOf_l5 70000 x1 x2 (0 : Int32) (0 : Int32) s with
  | none => none
  | some v2 =>
    some v2
theorem w_XSh_lengthOf_l5 (d : Nat) {o : ax_O} : ∀ (n : Nat) (x1 : Int32) (x2 : Int32) (x3 : Int32) (x4 : Int32) (s : ax_S) (r : Int32) (h : XSh_lengthOf_l5 n x1 x2 x3 x4 s = some r) (hk0 : ∀ (t0 : Int32), r = t0 → ax_go true none (ax_ev true (d + 1)) ax_m155 39 [none, none, none, some (.int t0), none] [] s o), ax_go true none (ax_ev true (d + 1)) ax_m155 5 [some (.ref 59), some (.int x1), some (.int x2), some (.int x3), some (.int x4)] [] s o := by
  intro n
  induction n with
  | zero => intro x1 x2 x3 x4 s r h hk0; cases h
  | succ n ih =>
    intro x1 x2 x3 x4 s r h hk0
    rw [XSh_lengthOf_l5] at h
    by_cases c1 : x2 ≤ x4
    · rw [if_pos c1] at h
      have h := Option.some.inj h
      subst r
      exact ax_cut (pc' := 39) (la := [some (.ref 59), some (.int x1), some (.int x2), some (.int x3), some (.int x4)]) [none, none, none, some (.int x3), none] (st' := []) (σ' := s) 3 (And.intro rfl (trivial)) (fun _ hh => (And.intro (fun _ => hh) (fun q => absurd c1 q))) (hk0 _ rfl)
    · rw [if_neg c1] at h
      by_cases c2 : ((x1 >>> (x4 &&& 31)) &&& (1 : Int32)) = (1 : Int32)
      · rw [if_pos c2] at h
        cases hz3 : XTa_byteAt x4 s with
        | none => rw [hz3] at h; cases h
        | some v1 =>
        rw [hz3] at h
        dsimp only at h
        refine ax_cut (pc' := 32) (la := [some (.ref 59), some (.int x1), some (.int x2), some (.int x3), some (.int x4)]) [some (.ref 59), some (.int x1), some (.int x2), none, some (.int x4)] (st' := [.int (x3 + v1)]) (σ' := s) 16 (And.intro rfl (And.intro rfl (And.intro rfl (And.intro rfl (trivial))))) (fun _ hh => (And.intro (fun q => absurd q c1) (fun _ => (And.intro (fun q => absurd c2 q) (fun _ => (Exists.intro (some (.int v1), s) (And.intro (e_XTa_byteAt d hz3) hh))))))) ?_
        exact ax_cut (pc' := 5) (la := [some (.ref 59), some (.int x1), some (.int x2), some (.int (x3 + v1)), some (.int (x4 + (1)))]) [some (.ref 59), some (.int x1), some (.int x2), some (.int (x3 + v1)), some (.int (x4 + (1)))] (st' := []) (σ' := s) 3 (And.intro rfl (And.intro rfl (And.intro rfl (And.intro rfl (And.intro rfl (trivial)))))) (fun _ hh => hh) (ih x1 x2 (x3 + v1) (x4 + (1)) s _ h hk0)
      · rw [if_neg c2] at h
        exact ax_cut (pc' := 5) (la := [some (.ref 59), some (.int x1), some (.int x2), some (.int x3), some (.int (x4 + (1)))]) [some (.ref 59), some (.int x1), some (.int x2), some (.int x3), some (.int (x4 + (1)))] (st' := []) (σ' := s) 12 (And.intro rfl (And.intro rfl (And.intro rfl (And.intro rfl (And.intro rfl (trivial)))))) (fun _ hh => (And.intro (fun q => absurd q c1) (fun _ => (And.intro (fun _ => hh) (fun q => absurd c2 q))))) (ih x1 x2 x3 (x4 + (1)) s _ h hk0)
theorem e_XSh_lengthOf (d : Nat) {x1 : Int32} {x2 : Int32} {s : ax_S} {r : Int32} (h : XSh_lengthOf x1 x2 s = some r) : ax_ev true (d + 2) 155 [.ref 59, .int x1, .int x2] s (some (.int r), s) := by
  refine ⟨Nat.le_of_ble_eq_true rfl, ?_⟩
  show ax_go true none (ax_ev true (d + 1)) ax_m155 0 [some (.ref 59), some (.int x1), some (.int x2), none, none] [] s _
  unfold XSh_lengthOf at h
  cases hz1 : XSh_lengthOf_l5 70000 x1 x2 (0 : Int32) (0 : Int32) s with
  | none => rw [hz1] at h; cases h
  | some z1 =>
  rw [hz1] at h
  refine ax_cut (pc' := 5) (la := [some (.ref 59), some (.int x1), some (.int x2), some (.int (0 : Int32)), some (.int (0 : Int32))]) [some (.ref 59), some (.int x1), some (.int x2), some (.int (0 : Int32)), some (.int (0 : Int32))] (st' := []) (σ' := s) 4 (And.intro rfl (And.intro rfl (And.intro rfl (And.intro rfl (And.intro rfl (trivial)))))) (fun _ hh => hh) (w_XSh_lengthOf_l5 d 70000 x1 x2 (0 : Int32) (0 : Int32) s _ hz1 ?_)
  · intro v2 hq
    subst z1
    dsimp only at h
    have h := Option.some.inj h
    subst r
    exact ax_end 2 rfl
def XSh_fitOffcuts_l2 : Nat → Int32 → Int32 → Int32 → ax_S → Option ((Unit) ⊕ (Int32))
  | 0, _, _, _, _ => none
  | n + 1, x1, x2, x3, s =>
    if x1 ≤ x3 then (
      some (.inl ())) else
    match XTa_byteAt x3 s with
    | none => none
    | some v1 =>
      if v1 < (1 : Int32) then (
        some (.inr (-3 : Int32))) else
      if v1 ≤ (60 : Int32) then (
        XSh_fitOffcuts_l2 n x1 x2 (x3 + (1)) s) else
      some (.inr (-3 : Int32))
def XSh_fitOffcuts_j56 (x1 : Int32) (x2 : Int32) (x3 : Int32) (x4 : Int32) (y0 : Int32)  (s : ax_S) : Int32 :=
  if y0 = (-2 : Int32) then (
    (1 : Int32)) else
  if (J_bitCount x3 s) ≤ (J_bitCount x4 s) then (
    (0 : Int32)) else
  (1 : Int32)
def XSh_fitOffcuts_l45 : Nat → Int32 → Int32 → Int32 → Int32 → ax_S → Option (Int32)
  | 0, _, _, _, _, _ => none
  | n + 1, x1, x2, x3, x4, s =>
    if ((1 : Int32) <<< (x1 &&& 31)) ≤ x4 then (
      some x3) else
    if (XSh_fitOffcuts_j56 x1 x2 x3 x4 x3 s) = 0 then (
      XSh_fitOffcuts_l45 n x1 x2 x3 (x4 + (1)) s) else
    match XSh_lengthOf x4 x1 s with
    | none => none
    | some v3 =>
      if v3 = x2 then (
        XSh_fitOffcuts_l45 n x1 x2 x4 (x4 + (1)) s) else
      XSh_fitOffcuts_l45 n x1 x2 x3 (x4 + (1)) s
def XSh_fitOffcuts (x1 : Int32) (x2 : Int32)  (s : ax_S) : Option (Int32) :=
  match XSh_fitOffcuts_l2 70000 x1 x2 (0 : Int32) s with
  | none => none
  | some (.inl _) =>
    match XSh_fitOffcuts_l45 70000 x1 x2 (-2 : Int32) (1 : Int32) s with
    | none => none
    | some v4 =>
      some v4
  | some (.inr r) => some r
theorem w_XSh_fitOffcuts_l2 (d : Nat) {o : ax_O} : ∀ (n : Nat) (x1 : Int32) (x2 : Int32) (x3 : Int32) (s : ax_S) (r : (Unit) ⊕ (Int32)) (h : XSh_fitOffcuts_l2 n x1 x2 x3 s = some r) (hk0 : r = (.inl ()) → ax_go true none (ax_ev true (d + 2)) ax_m154 39 [some (.ref 59), some (.int x1), some (.int x2), none, none, none] [] s o) (hkr : ∀ q, r = (.inr q) → o = (some (.int q), s)), ax_go true none (ax_ev true (d + 2)) ax_m154 2 [some (.ref 59), some (.int x1), some (.int x2), some (.int x3), none, none] [] s o := by
  intro n
  induction n with
  | zero => intro x1 x2 x3 s r h hk0 hkr; cases h
  | succ n ih =>
    intro x1 x2 x3 s r h hk0 hkr
    rw [XSh_fitOffcuts_l2] at h
    by_cases c1 : x1 ≤ x3
    · rw [if_pos c1] at h
      have h := Option.some.inj h
      subst r
      exact ax_cut (pc' := 39) (la := [some (.ref 59), some (.int x1), some (.int x2), some (.int x3), none, none]) [some (.ref 59), some (.int x1), some (.int x2), none, none, none] (st' := []) (σ' := s) 3 (And.intro rfl (And.intro rfl (And.intro rfl (trivial)))) (fun _ hh => (And.intro (fun _ => hh) (fun q => absurd c1 q))) (hk0 rfl)
    · rw [if_neg c1] at h
      cases hz2 : XTa_byteAt x3 s with
      | none => rw [hz2] at h; cases h
      | some v1 =>
      rw [hz2] at h
      dsimp only at h
      by_cases c3 : v1 < (1 : Int32)
      · rw [if_pos c3] at h
        have h := Option.some.inj h
        subst r
        exact ax_end 13 (And.intro (fun q => absurd q c1) (fun _ => (Exists.intro (some (.int v1), s) (And.intro (e_XTa_byteAt (d + 1) hz2) (And.intro (fun _ => (hkr _ rfl)) (fun q => absurd c3 q))))))
      · rw [if_neg c3] at h
        by_cases c4 : v1 ≤ (60 : Int32)
        · rw [if_pos c4] at h
          exact ax_cut (pc' := 2) (la := [some (.ref 59), some (.int x1), some (.int x2), some (.int (x3 + (1))), some (.int v1), none]) [some (.ref 59), some (.int x1), some (.int x2), some (.int (x3 + (1))), none, none] (st' := []) (σ' := s) 16 (And.intro rfl (And.intro rfl (And.intro rfl (And.intro rfl (trivial))))) (fun _ hh => (And.intro (fun q => absurd q c1) (fun _ => (Exists.intro (some (.int v1), s) (And.intro (e_XTa_byteAt (d + 1) hz2) (And.intro (fun q => absurd q c3) (fun _ => (And.intro (fun _ => hh) (fun q => absurd c4 q))))))))) (ih x1 x2 (x3 + (1)) s _ h hk0 hkr)
        · rw [if_neg c4] at h
          have h := Option.some.inj h
          subst r
          exact ax_end 16 (And.intro (fun q => absurd q c1) (fun _ => (Exists.intro (some (.int v1), s) (And.intro (e_XTa_byteAt (d + 1) hz2) (And.intro (fun q => absurd q c3) (fun _ => (And.intro (fun q => absurd q c4) (fun _ => (hkr _ rfl)))))))))
theorem w_XSh_fitOffcuts_j56 (d : Nat) {o : ax_O} (x1 : Int32) (x2 : Int32) (x3 : Int32) (x4 : Int32) (y0 : Int32) (s : ax_S) (r : Int32) (h : XSh_fitOffcuts_j56 x1 x2 x3 x4 y0 s = r) (hk0 : ∀ (t0 : Int32), r = t0 → ax_go true none (ax_ev true (d + 2)) ax_m154 76 [some (.ref 59), some (.int x1), some (.int x2), some (.int x3), some (.int x4), none] [.int t0] s o) : ax_go true none (ax_ev true (d + 2)) ax_m154 56 [some (.ref 59), some (.int x1), some (.int x2), some (.int x3), some (.int x4), none] [.int (-2 : Int32), .int y0] s o := by
  unfold XSh_fitOffcuts_j56 at h
  by_cases c1 : y0 = (-2 : Int32)
  · rw [if_pos c1] at h
    have h := h
    subst r
    exact ax_cut (pc' := 76) (la := [some (.ref 59), some (.int x1), some (.int x2), some (.int x3), some (.int x4), none]) [some (.ref 59), some (.int x1), some (.int x2), some (.int x3), some (.int x4), none] (st' := [.int (1 : Int32)]) (σ' := s) 3 (And.intro rfl (And.intro rfl (And.intro rfl (And.intro rfl (And.intro rfl (trivial)))))) (fun _ hh => (And.intro (fun _ => hh) (fun q => absurd c1 q))) (hk0 _ rfl)
  · rw [if_neg c1] at h
    by_cases c2 : (J_bitCount x3 s) ≤ (J_bitCount x4 s)
    · rw [if_pos c2] at h
      have h := h
      subst r
      exact ax_cut (pc' := 76) (la := [some (.ref 59), some (.int x1), some (.int x2), some (.int x3), some (.int x4), none]) [some (.ref 59), some (.int x1), some (.int x2), some (.int x3), some (.int x4), none] (st' := [.int (0 : Int32)]) (σ' := s) 7 (And.intro rfl (And.intro rfl (And.intro rfl (And.intro rfl (And.intro rfl (trivial)))))) (fun _ hh => (And.intro (fun q => absurd q c1) (fun _ => (Exists.intro (some (.int (J_bitCount x4 s)), s) (And.intro (e_J_bitCount (d + 1) x4 s) (Exists.intro (some (.int (J_bitCount x3 s)), s) (And.intro (e_J_bitCount (d + 1) x3 s) (And.intro (fun _ => hh) (fun q => absurd c2 q))))))))) (hk0 _ rfl)
    · rw [if_neg c2] at h
      have h := h
      subst r
      exact ax_cut (pc' := 76) (la := [some (.ref 59), some (.int x1), some (.int x2), some (.int x3), some (.int x4), none]) [some (.ref 59), some (.int x1), some (.int x2), some (.int x3), some (.int x4), none] (st' := [.int (1 : Int32)]) (σ' := s) 8 (And.intro rfl (And.intro rfl (And.intro rfl (And.intro rfl (And.intro rfl (trivial)))))) (fun _ hh => (And.intro (fun q => absurd q c1) (fun _ => (Exists.intro (some (.int (J_bitCount x4 s)), s) (And.intro (e_J_bitCount (d + 1) x4 s) (Exists.intro (some (.int (J_bitCount x3 s)), s) (And.intro (e_J_bitCount (d + 1) x3 s) (And.intro (fun q => absurd q c2) (fun _ => hh))))))))) (hk0 _ rfl)
theorem w_XSh_fitOffcuts_l45 (d : Nat) {o : ax_O} : ∀ (n : Nat) (x1 : Int32) (x2 : Int32) (x3 : Int32) (x4 : Int32) (s : ax_S) (r : Int32) (h : XSh_fitOffcuts_l45 n x1 x2 x3 x4 s = some r) (hk0 : ∀ (t0 : Int32), r = t0 → ax_go true none (ax_ev true (d + 2)) ax_m154 103 [none, none, none, some (.int t0), none, none] [] s o), ax_go true none (ax_ev true (d + 2)) ax_m154 45 [some (.ref 59), some (.int x1), some (.int x2), some (.int x3), some (.int x4), none] [] s o := by
  intro n
  induction n with
  | zero => intro x1 x2 x3 x4 s r h hk0; cases h
  | succ n ih =>
    intro x1 x2 x3 x4 s r h hk0
    rw [XSh_fitOffcuts_l45] at h
    by_cases c1 : ((1 : Int32) <<< (x1 &&& 31)) ≤ x4
    · rw [if_pos c1] at h
      have h := Option.some.inj h
      subst r
      exact ax_cut (pc' := 103) (la := [some (.ref 59), some (.int x1), some (.int x2), some (.int x3), some (.int x4), none]) [none, none, none, some (.int x3), none, none] (st' := []) (σ' := s) 5 (And.intro rfl (trivial)) (fun _ hh => (And.intro (fun _ => hh) (fun q => absurd c1 q))) (hk0 _ rfl)
    · rw [if_neg c1] at h
      refine ax_cut (pc' := 56) (la := [some (.ref 59), some (.int x1), some (.int x2), some (.int x3), some (.int x4), none]) [some (.ref 59), some (.int x1), some (.int x2), some (.int x3), some (.int x4), none] (st' := [.int (-2 : Int32), .int x3]) (σ' := s) 7 (And.intro rfl (And.intro rfl (And.intro rfl (And.intro rfl (And.intro rfl (trivial)))))) (fun _ hh => (And.intro (fun q => absurd q c1) (fun _ => hh))) (w_XSh_fitOffcuts_j56 d x1 x2 x3 x4 x3 s _ rfl (fun v2 hq => ?_))
      obtain rfl : v2 = (XSh_fitOffcuts_j56 x1 x2 x3 x4 x3 s) := hq.symm
      by_cases c2 : (XSh_fitOffcuts_j56 x1 x2 x3 x4 x3 s) = 0
      · rw [if_pos c2] at h
        exact ax_cut (pc' := 45) (la := [some (.ref 59), some (.int x1), some (.int x2), some (.int x3), some (.int (x4 + (1))), some (.int (XSh_fitOffcuts_j56 x1 x2 x3 x4 x3 s))]) [some (.ref 59), some (.int x1), some (.int x2), some (.int x3), some (.int (x4 + (1))), none] (st' := []) (σ' := s) 5 (And.intro rfl (And.intro rfl (And.intro rfl (And.intro rfl (And.intro rfl (trivial)))))) (fun _ hh => (And.intro (fun _ => hh) (fun q => absurd c2 q))) (ih x1 x2 x3 (x4 + (1)) s _ h hk0)
      · rw [if_neg c2] at h
        cases hz3 : XSh_lengthOf x4 x1 s with
        | none => rw [hz3] at h; cases h
        | some v3 =>
        rw [hz3] at h
        dsimp only at h
        by_cases c4 : v3 = x2
        · rw [if_pos c4] at h
          exact ax_cut (pc' := 45) (la := [some (.ref 59), some (.int x1), some (.int x2), some (.int x4), some (.int (x4 + (1))), some (.int (XSh_fitOffcuts_j56 x1 x2 x3 x4 x3 s))]) [some (.ref 59), some (.int x1), some (.int x2), some (.int x4), some (.int (x4 + (1))), none] (st' := []) (σ' := s) 13 (And.intro rfl (And.intro rfl (And.intro rfl (And.intro rfl (And.intro rfl (trivial)))))) (fun _ hh => (And.intro (fun q => absurd q c2) (fun _ => (Exists.intro (some (.int v3), s) (And.intro (e_XSh_lengthOf d hz3) (And.intro (fun q => absurd c4 q) (fun _ => hh))))))) (ih x1 x2 x4 (x4 + (1)) s _ h hk0)
        · rw [if_neg c4] at h
          exact ax_cut (pc' := 45) (la := [some (.ref 59), some (.int x1), some (.int x2), some (.int x3), some (.int (x4 + (1))), some (.int (XSh_fitOffcuts_j56 x1 x2 x3 x4 x3 s))]) [some (.ref 59), some (.int x1), some (.int x2), some (.int x3), some (.int (x4 + (1))), none] (st' := []) (σ' := s) 11 (And.intro rfl (And.intro rfl (And.intro rfl (And.intro rfl (And.intro rfl (trivial)))))) (fun _ hh => (And.intro (fun q => absurd q c2) (fun _ => (Exists.intro (some (.int v3), s) (And.intro (e_XSh_lengthOf d hz3) (And.intro (fun _ => hh) (fun q => absurd c4 q))))))) (ih x1 x2 x3 (x4 + (1)) s _ h hk0)
theorem e_XSh_fitOffcuts (d : Nat) {x1 : Int32} {x2 : Int32} {s : ax_S} {r : Int32} (h : XSh_fitOffcuts x1 x2 s = some r) : ax_ev true (d + 3) 154 [.ref 59, .int x1, .int x2] s (some (.int r), s) := by
  refine ⟨Nat.le_of_ble_eq_true rfl, ?_⟩
  show ax_go true none (ax_ev true (d + 2)) ax_m154 0 [some (.ref 59), some (.int x1), some (.int x2), none, none, none] [] s _
  unfold XSh_fitOffcuts at h
  cases hz1 : XSh_fitOffcuts_l2 70000 x1 x2 (0 : Int32) s with
  | none => rw [hz1] at h; cases h
  | some z1 =>
  rw [hz1] at h
  refine ax_cut (pc' := 2) (la := [some (.ref 59), some (.int x1), some (.int x2), some (.int (0 : Int32)), none, none]) [some (.ref 59), some (.int x1), some (.int x2), some (.int (0 : Int32)), none, none] (st' := []) (σ' := s) 2 (And.intro rfl (And.intro rfl (And.intro rfl (And.intro rfl (trivial))))) (fun _ hh => hh) (w_XSh_fitOffcuts_l2 d 70000 x1 x2 (0 : Int32) s _ hz1 ?_ ?_)
  · intro  hq
    subst z1
    dsimp only at h
    cases hz2 : XSh_fitOffcuts_l45 70000 x1 x2 (-2 : Int32) (1 : Int32) s with
    | none => rw [hz2] at h; cases h
    | some z2 =>
    rw [hz2] at h
    refine ax_cut (pc' := 45) (la := [some (.ref 59), some (.int x1), some (.int x2), some (.int (-2 : Int32)), some (.int (1 : Int32)), none]) [some (.ref 59), some (.int x1), some (.int x2), some (.int (-2 : Int32)), some (.int (1 : Int32)), none] (st' := []) (σ' := s) 4 (And.intro rfl (And.intro rfl (And.intro rfl (And.intro rfl (And.intro rfl (trivial)))))) (fun _ hh => hh) (w_XSh_fitOffcuts_l45 d 70000 x1 x2 (-2 : Int32) (1 : Int32) s _ hz2 ?_)
    · intro v4 hq
      subst z2
      dsimp only at h
      have h := Option.some.inj h
      subst r
      exact ax_end 2 rfl
  · intro q hq
    subst z1
    dsimp only at h
    cases h
    rfl
def X_offcuts (x1 : Int32) (x2 : Int32) (x3 : Int32)  (s : ax_S) : Option (Int32 × ax_S) :=
  if (X_isWithin x1 (1 : Int32) (8 : Int32) s) = 0 then (
    some ((-1 : Int32), s)) else
  if (X_isWithin x2 (1 : Int32) (240 : Int32) s) = 0 then (
    some ((-1 : Int32), s)) else
  if (X_isWithin x3 (0 : Int32) (1 : Int32) s) = 0 then (
    some ((-1 : Int32), s)) else
  if (XTa_holds x1 s) = 0 then (
    some ((-1 : Int32), s)) else
  match XSh_fitOffcuts x1 x2 s with
  | none => none
  | some v1 =>
    if x3 = 0 then (
      if v1 ≤ 0 then (
        some (v1, (XTa_clear s))) else
      some ((J_bitCount v1 (XTa_clear s)), (XTa_clear s))) else
    some (v1, (XTa_clear s))
theorem e_X_offcuts (d : Nat) {x1 : Int32} {x2 : Int32} {x3 : Int32} {s : ax_S} {r : Int32 × ax_S} (h : X_offcuts x1 x2 x3 s = some r) : ax_ev true (d + 4) 153 [.ref 0, .int x1, .int x2, .int x3] s (some (.int r.1), r.2) := by
  refine ⟨Nat.le_of_ble_eq_true rfl, ?_⟩
  show ax_go true none (ax_ev true (d + 3)) ax_m153 0 [some (.ref 0), some (.int x1), some (.int x2), some (.int x3), none] [] s _
  unfold X_offcuts at h
  by_cases c1 : (X_isWithin x1 (1 : Int32) (8 : Int32) s) = 0
  · rw [if_pos c1] at h
    have h := Option.some.inj h
    subst r
    exact ax_end 7 (Exists.intro (some (.int (X_isWithin x1 (1 : Int32) (8 : Int32) s)), s) (And.intro (e_X_isWithin (d + 2) x1 (1 : Int32) (8 : Int32) s) (And.intro (fun _ => rfl) (fun q => absurd c1 q))))
  · rw [if_neg c1] at h
    by_cases c2 : (X_isWithin x2 (1 : Int32) (240 : Int32) s) = 0
    · rw [if_pos c2] at h
      have h := Option.some.inj h
      subst r
      exact ax_end 12 (Exists.intro (some (.int (X_isWithin x1 (1 : Int32) (8 : Int32) s)), s) (And.intro (e_X_isWithin (d + 2) x1 (1 : Int32) (8 : Int32) s) (And.intro (fun q => absurd q c1) (fun _ => (Exists.intro (some (.int (X_isWithin x2 (1 : Int32) (240 : Int32) s)), s) (And.intro (e_X_isWithin (d + 2) x2 (1 : Int32) (240 : Int32) s) (And.intro (fun _ => rfl) (fun q => absurd c2 q))))))))
    · rw [if_neg c2] at h
      by_cases c3 : (X_isWithin x3 (0 : Int32) (1 : Int32) s) = 0
      · rw [if_pos c3] at h
        refine ax_cut (pc' := 42) (la := [some (.ref 0), some (.int x1), some (.int x2), some (.int x3), none]) [none, none, none, none, none] (st' := [.int (-1 : Int32)]) (σ' := s) 16 (trivial) (fun _ hh => (Exists.intro (some (.int (X_isWithin x1 (1 : Int32) (8 : Int32) s)), s) (And.intro (e_X_isWithin (d + 2) x1 (1 : Int32) (8 : Int32) s) (And.intro (fun q => absurd q c1) (fun _ => (Exists.intro (some (.int (X_isWithin x2 (1 : Int32) (240 : Int32) s)), s) (And.intro (e_X_isWithin (d + 2) x2 (1 : Int32) (240 : Int32) s) (And.intro (fun q => absurd q c2) (fun _ => (Exists.intro (some (.int (X_isWithin x3 (0 : Int32) (1 : Int32) s)), s) (And.intro (e_X_isWithin (d + 2) x3 (0 : Int32) (1 : Int32) s) (And.intro (fun _ => hh) (fun q => absurd c3 q))))))))))))) ?_
        have h := Option.some.inj h
        subst r
        exact ax_end 1 rfl
      · rw [if_neg c3] at h
        refine ax_cut (pc' := 31) (la := [some (.ref 0), some (.int x1), some (.int x2), some (.int x3), none]) [some (.ref 0), some (.int x1), some (.int x2), some (.int x3), none] (st' := [.ref 0]) (σ' := s) 16 (And.intro rfl (And.intro rfl (And.intro rfl (And.intro rfl (trivial))))) (fun _ hh => (Exists.intro (some (.int (X_isWithin x1 (1 : Int32) (8 : Int32) s)), s) (And.intro (e_X_isWithin (d + 2) x1 (1 : Int32) (8 : Int32) s) (And.intro (fun q => absurd q c1) (fun _ => (Exists.intro (some (.int (X_isWithin x2 (1 : Int32) (240 : Int32) s)), s) (And.intro (e_X_isWithin (d + 2) x2 (1 : Int32) (240 : Int32) s) (And.intro (fun q => absurd q c2) (fun _ => (Exists.intro (some (.int (X_isWithin x3 (0 : Int32) (1 : Int32) s)), s) (And.intro (e_X_isWithin (d + 2) x3 (0 : Int32) (1 : Int32) s) (And.intro (fun q => absurd q c3) (fun _ => hh))))))))))))) ?_
        by_cases c4 : (XTa_holds x1 s) = 0
        · rw [if_pos c4] at h
          have h := Option.some.inj h
          subst r
          exact ax_end 6 (Exists.intro (some (.int (XTa_holds x1 s)), s) (And.intro (e_XTa_holds (d + 2) x1 s) (And.intro (fun q => absurd c4 q) (fun _ => rfl))))
        · rw [if_neg c4] at h
          cases hz5 : XSh_fitOffcuts x1 x2 s with
          | none => rw [hz5] at h; cases h
          | some v1 =>
          rw [hz5] at h
          dsimp only at h
          by_cases c6 : x3 = 0
          · rw [if_pos c6] at h
            refine ax_cut (pc' := 67) (la := [some (.ref 0), some (.int x1), some (.int x2), some (.int x3), some (.int v1)]) [none, none, none, none, some (.int v1)] (st' := [.int v1]) (σ' := (XTa_clear s)) 16 (And.intro rfl (trivial)) (fun _ hh => (Exists.intro (some (.int (XTa_holds x1 s)), s) (And.intro (e_XTa_holds (d + 2) x1 s) (And.intro (fun _ => (Exists.intro (some (.int v1), s) (And.intro (e_XSh_fitOffcuts d hz5) (Exists.intro (none, (XTa_clear s)) (And.intro (e_XTa_clear (d + 2)  s) (And.intro (fun q => absurd c6 q) (fun _ => hh))))))) (fun q => absurd c4 q))))) ?_
            by_cases c7 : v1 ≤ 0
            · rw [if_pos c7] at h
              have h := Option.some.inj h
              subst r
              exact ax_end 3 (And.intro (fun _ => rfl) (fun q => absurd c7 q))
            · rw [if_neg c7] at h
              have h := Option.some.inj h
              subst r
              exact ax_end 5 (And.intro (fun q => absurd q c7) (fun _ => (Exists.intro (some (.int (J_bitCount v1 (XTa_clear s))), (XTa_clear s)) (And.intro (e_J_bitCount (d + 2) v1 (XTa_clear s)) rfl))))
          · rw [if_neg c6] at h
            refine ax_cut (pc' := 80) (la := [some (.ref 0), some (.int x1), some (.int x2), some (.int x3), some (.int v1)]) [none, none, none, none, none] (st' := [.int v1]) (σ' := (XTa_clear s)) 16 (trivial) (fun _ hh => (Exists.intro (some (.int (XTa_holds x1 s)), s) (And.intro (e_XTa_holds (d + 2) x1 s) (And.intro (fun _ => (Exists.intro (some (.int v1), s) (And.intro (e_XSh_fitOffcuts d hz5) (Exists.intro (none, (XTa_clear s)) (And.intro (e_XTa_clear (d + 2)  s) (And.intro (fun _ => hh) (fun q => absurd c6 q))))))) (fun q => absurd c4 q))))) ?_
            have h := Option.some.inj h
            subst r
            exact ax_end 1 rfl
def M_offcuts_l48 : Nat → Int32 → Int32 → Int32 → Int32 → ax_S → Option ((Unit) ⊕ (Int32 × ax_S))
  | 0, _, _, _, _, _ => none
  | n + 1, x1, x2, x3, x4, s =>
    if x1 ≤ x4 then (
      some (.inl ())) else
    match M_octet x4 s with
    | none => none
    | some v1 =>
      if (M_in v1 (1 : Int32) (60 : Int32) s) = 0 then (
        some (.inr ((-3 : Int32), s))) else
      M_offcuts_l48 n x1 x2 x3 (x4 + (1)) s
def M_offcuts_l99 : Nat → Int32 → Int32 → Int32 → Int32 → Int32 → Int32 → Int32 → ax_S → Option (Int32)
  | 0, _, _, _, _, _, _, _, _ => none
  | n + 1, x1, x2, x3, x4, x5, x6, x7, s =>
    if x1 ≤ x7 then (
      some x6) else
    if (M_has x5 x7 s) = 0 then (
      M_offcuts_l99 n x1 x2 x3 x4 x5 x6 (x7 + (1)) s) else
    match M_octet x7 s with
    | none => none
    | some v2 =>
      M_offcuts_l99 n x1 x2 x3 x4 x5 (x6 + v2) (x7 + (1)) s
def M_offcuts_l85 : Nat → Int32 → Int32 → Int32 → Int32 → Int32 → ax_S → Option (Int32)
  | 0, _, _, _, _, _, _ => none
  | n + 1, x1, x2, x3, x4, x5, s =>
    if ((1 : Int32) <<< (x1 &&& 31)) ≤ x5 then (
      some x4) else
    match M_offcuts_l99 70000 x1 x2 x3 x4 x5 (0 : Int32) (0 : Int32) s with
    | none => none
    | some v3 =>
      if v3 = x2 then (
        if x4 = (-2 : Int32) then (
          M_offcuts_l85 n x1 x2 x3 x5 (x5 + (1)) s) else
        match M_bits x5 s with
        | none => none
        | some v4 =>
          match M_bits x4 s with
          | none => none
          | some v5 =>
            if v5 ≤ v4 then (
              M_offcuts_l85 n x1 x2 x3 x4 (x5 + (1)) s) else
            M_offcuts_l85 n x1 x2 x3 x5 (x5 + (1)) s) else
      M_offcuts_l85 n x1 x2 x3 x4 (x5 + (1)) s
def M_offcuts (x1 : Int32) (x2 : Int32) (x3 : Int32)  (s : ax_S) : Option (Int32 × ax_S) :=
  if (M_in x1 (1 : Int32) (8 : Int32) s) = 0 then (
    some ((-1 : Int32), s)) else
  if (M_in x2 (1 : Int32) (240 : Int32) s) = 0 then (
    some ((-1 : Int32), s)) else
  if (M_in x3 (0 : Int32) (1 : Int32) s) = 0 then (
    some ((-1 : Int32), s)) else
  if x1 ≤ (s.2.1 63 5) then (
    match M_offcuts_l48 70000 x1 x2 x3 (0 : Int32) (ax_sI s 63 5 (0 : Int32)) with
    | none => none
    | some (.inl _) =>
      match M_offcuts_l85 70000 x1 x2 x3 (-2 : Int32) (1 : Int32) (ax_sI s 63 5 (0 : Int32)) with
      | none => none
      | some v6 =>
        if x3 = (1 : Int32) then (
          some (v6, (ax_sI s 63 5 (0 : Int32)))) else
        if v6 = (-2 : Int32) then (
          some (v6, (ax_sI s 63 5 (0 : Int32)))) else
        match M_bits v6 (ax_sI s 63 5 (0 : Int32)) with
        | none => none
        | some v7 =>
          some (v7, (ax_sI s 63 5 (0 : Int32)))
    | some (.inr r) => some r) else
  some ((-1 : Int32), s)
theorem w_M_offcuts_l48 (d : Nat) {o : ax_O} : ∀ (n : Nat) (x1 : Int32) (x2 : Int32) (x3 : Int32) (x4 : Int32) (s : ax_S) (r : (Unit) ⊕ (Int32 × ax_S)) (h : M_offcuts_l48 n x1 x2 x3 x4 s = some r) (hk0 : r = (.inl ()) → ax_go true none (ax_ev true (d + 1)) ax_m275 78 [some (.ref 63), some (.int x1), some (.int x2), some (.int x3), none, none, none, none] [] s o) (hkr : ∀ q, r = (.inr q) → o = (some (.int q.1), q.2)), ax_go true none (ax_ev true (d + 1)) ax_m275 48 [some (.ref 63), some (.int x1), some (.int x2), some (.int x3), some (.int x4), none, none, none] [] s o := by
  intro n
  induction n with
  | zero => intro x1 x2 x3 x4 s r h hk0 hkr; cases h
  | succ n ih =>
    intro x1 x2 x3 x4 s r h hk0 hkr
    rw [M_offcuts_l48] at h
    by_cases c1 : x1 ≤ x4
    · rw [if_pos c1] at h
      have h := Option.some.inj h
      subst r
      exact ax_cut (pc' := 78) (la := [some (.ref 63), some (.int x1), some (.int x2), some (.int x3), some (.int x4), none, none, none]) [some (.ref 63), some (.int x1), some (.int x2), some (.int x3), none, none, none, none] (st' := []) (σ' := s) 3 (And.intro rfl (And.intro rfl (And.intro rfl (And.intro rfl (trivial))))) (fun _ hh => (And.intro (fun _ => hh) (fun q => absurd c1 q))) (hk0 rfl)
    · rw [if_neg c1] at h
      cases hz2 : M_octet x4 s with
      | none => rw [hz2] at h; cases h
      | some v1 =>
      rw [hz2] at h
      dsimp only at h
      by_cases c3 : (M_in v1 (1 : Int32) (60 : Int32) s) = 0
      · rw [if_pos c3] at h
        have h := Option.some.inj h
        subst r
        exact ax_end 12 (And.intro (fun q => absurd q c1) (fun _ => (Exists.intro (some (.int v1), s) (And.intro (e_M_octet d hz2) (Exists.intro (some (.int (M_in v1 (1 : Int32) (60 : Int32) s)), s) (And.intro (e_M_in d v1 (1 : Int32) (60 : Int32) s) (And.intro (fun q => absurd c3 q) (fun _ => (hkr _ rfl)))))))))
      · rw [if_neg c3] at h
        exact ax_cut (pc' := 48) (la := [some (.ref 63), some (.int x1), some (.int x2), some (.int x3), some (.int (x4 + (1))), none, none, none]) [some (.ref 63), some (.int x1), some (.int x2), some (.int x3), some (.int (x4 + (1))), none, none, none] (st' := []) (σ' := s) 12 (And.intro rfl (And.intro rfl (And.intro rfl (And.intro rfl (And.intro rfl (trivial)))))) (fun _ hh => (And.intro (fun q => absurd q c1) (fun _ => (Exists.intro (some (.int v1), s) (And.intro (e_M_octet d hz2) (Exists.intro (some (.int (M_in v1 (1 : Int32) (60 : Int32) s)), s) (And.intro (e_M_in d v1 (1 : Int32) (60 : Int32) s) (And.intro (fun _ => hh) (fun q => absurd c3 q))))))))) (ih x1 x2 x3 (x4 + (1)) s _ h hk0 hkr)
theorem w_M_offcuts_l99 (d : Nat) {o : ax_O} : ∀ (n : Nat) (x1 : Int32) (x2 : Int32) (x3 : Int32) (x4 : Int32) (x5 : Int32) (x6 : Int32) (x7 : Int32) (s : ax_S) (r : Int32) (h : M_offcuts_l99 n x1 x2 x3 x4 x5 x6 x7 s = some r) (hk0 : ∀ (t0 : Int32), r = t0 → ax_go true none (ax_ev true (d + 1)) ax_m275 132 [some (.ref 63), some (.int x1), some (.int x2), some (.int x3), some (.int x4), some (.int x5), some (.int t0), none] [] s o), ax_go true none (ax_ev true (d + 1)) ax_m275 99 [some (.ref 63), some (.int x1), some (.int x2), some (.int x3), some (.int x4), some (.int x5), some (.int x6), some (.int x7)] [] s o := by
  intro n
  induction n with
  | zero => intro x1 x2 x3 x4 x5 x6 x7 s r h hk0; cases h
  | succ n ih =>
    intro x1 x2 x3 x4 x5 x6 x7 s r h hk0
    rw [M_offcuts_l99] at h
    by_cases c1 : x1 ≤ x7
    · rw [if_pos c1] at h
      have h := Option.some.inj h
      subst r
      exact ax_cut (pc' := 132) (la := [some (.ref 63), some (.int x1), some (.int x2), some (.int x3), some (.int x4), some (.int x5), some (.int x6), some (.int x7)]) [some (.ref 63), some (.int x1), some (.int x2), some (.int x3), some (.int x4), some (.int x5), some (.int x6), none] (st' := []) (σ' := s) 3 (And.intro rfl (And.intro rfl (And.intro rfl (And.intro rfl (And.intro rfl (And.intro rfl (And.intro rfl (trivial)))))))) (fun _ hh => (And.intro (fun _ => hh) (fun q => absurd c1 q))) (hk0 _ rfl)
    · rw [if_neg c1] at h
      by_cases c2 : (M_has x5 x7 s) = 0
      · rw [if_pos c2] at h
        exact ax_cut (pc' := 99) (la := [some (.ref 63), some (.int x1), some (.int x2), some (.int x3), some (.int x4), some (.int x5), some (.int x6), some (.int (x7 + (1)))]) [some (.ref 63), some (.int x1), some (.int x2), some (.int x3), some (.int x4), some (.int x5), some (.int x6), some (.int (x7 + (1)))] (st' := []) (σ' := s) 9 (And.intro rfl (And.intro rfl (And.intro rfl (And.intro rfl (And.intro rfl (And.intro rfl (And.intro rfl (And.intro rfl (trivial))))))))) (fun _ hh => (And.intro (fun q => absurd q c1) (fun _ => (Exists.intro (some (.int (M_has x5 x7 s)), s) (And.intro (e_M_has d x5 x7 s) (And.intro (fun _ => hh) (fun q => absurd c2 q))))))) (ih x1 x2 x3 x4 x5 x6 (x7 + (1)) s _ h hk0)
      · rw [if_neg c2] at h
        cases hz3 : M_octet x7 s with
        | none => rw [hz3] at h; cases h
        | some v2 =>
        rw [hz3] at h
        dsimp only at h
        exact ax_cut (pc' := 99) (la := [some (.ref 63), some (.int x1), some (.int x2), some (.int x3), some (.int x4), some (.int x5), some (.int (x6 + v2)), some (.int (x7 + (1)))]) [some (.ref 63), some (.int x1), some (.int x2), some (.int x3), some (.int x4), some (.int x5), some (.int (x6 + v2)), some (.int (x7 + (1)))] (st' := []) (σ' := s) 15 (And.intro rfl (And.intro rfl (And.intro rfl (And.intro rfl (And.intro rfl (And.intro rfl (And.intro rfl (And.intro rfl (trivial))))))))) (fun _ hh => (And.intro (fun q => absurd q c1) (fun _ => (Exists.intro (some (.int (M_has x5 x7 s)), s) (And.intro (e_M_has d x5 x7 s) (And.intro (fun q => absurd q c2) (fun _ => (Exists.intro (some (.int v2), s) (And.intro (e_M_octet d hz3) hh))))))))) (ih x1 x2 x3 x4 x5 (x6 + v2) (x7 + (1)) s _ h hk0)
theorem w_M_offcuts_l85 (d : Nat) {o : ax_O} : ∀ (n : Nat) (x1 : Int32) (x2 : Int32) (x3 : Int32) (x4 : Int32) (x5 : Int32) (s : ax_S) (r : Int32) (h : M_offcuts_l85 n x1 x2 x3 x4 x5 s = some r) (hk0 : ∀ (t0 : Int32), r = t0 → ax_go true none (ax_ev true (d + 1)) ax_m275 168 [none, none, none, some (.int x3), some (.int t0), none, none, none] [] s o), ax_go true none (ax_ev true (d + 1)) ax_m275 85 [some (.ref 63), some (.int x1), some (.int x2), some (.int x3), some (.int x4), some (.int x5), none, none] [] s o := by
  intro n
  induction n with
  | zero => intro x1 x2 x3 x4 x5 s r h hk0; cases h
  | succ n ih =>
    intro x1 x2 x3 x4 x5 s r h hk0
    rw [M_offcuts_l85] at h
    by_cases c1 : ((1 : Int32) <<< (x1 &&& 31)) ≤ x5
    · rw [if_pos c1] at h
      have h := Option.some.inj h
      subst r
      exact ax_cut (pc' := 168) (la := [some (.ref 63), some (.int x1), some (.int x2), some (.int x3), some (.int x4), some (.int x5), none, none]) [none, none, none, some (.int x3), some (.int x4), none, none, none] (st' := []) (σ' := s) 5 (And.intro rfl (And.intro rfl (trivial))) (fun _ hh => (And.intro (fun _ => hh) (fun q => absurd c1 q))) (hk0 _ rfl)
    · rw [if_neg c1] at h
      cases hz2 : M_offcuts_l99 70000 x1 x2 x3 x4 x5 (0 : Int32) (0 : Int32) s with
      | none => rw [hz2] at h; cases h
      | some z2 =>
      rw [hz2] at h
      refine ax_cut (pc' := 99) (la := [some (.ref 63), some (.int x1), some (.int x2), some (.int x3), some (.int x4), some (.int x5), some (.int (0 : Int32)), some (.int (0 : Int32))]) [some (.ref 63), some (.int x1), some (.int x2), some (.int x3), some (.int x4), some (.int x5), some (.int (0 : Int32)), some (.int (0 : Int32))] (st' := []) (σ' := s) 9 (And.intro rfl (And.intro rfl (And.intro rfl (And.intro rfl (And.intro rfl (And.intro rfl (And.intro rfl (And.intro rfl (trivial))))))))) (fun _ hh => (And.intro (fun q => absurd q c1) (fun _ => hh))) (w_M_offcuts_l99 d 70000 x1 x2 x3 x4 x5 (0 : Int32) (0 : Int32) s _ hz2 ?_)
      · intro v3 hq
        subst z2
        dsimp only at h
        by_cases c3 : v3 = x2
        · rw [if_pos c3] at h
          by_cases c4 : x4 = (-2 : Int32)
          · rw [if_pos c4] at h
            exact ax_cut (pc' := 85) (la := [some (.ref 63), some (.int x1), some (.int x2), some (.int x3), some (.int x5), some (.int (x5 + (1))), some (.int v3), none]) [some (.ref 63), some (.int x1), some (.int x2), some (.int x3), some (.int x5), some (.int (x5 + (1))), none, none] (st' := []) (σ' := s) 10 (And.intro rfl (And.intro rfl (And.intro rfl (And.intro rfl (And.intro rfl (And.intro rfl (trivial))))))) (fun _ hh => (And.intro (fun q => absurd c3 q) (fun _ => (And.intro (fun _ => hh) (fun q => absurd c4 q))))) (ih x1 x2 x3 x5 (x5 + (1)) s _ h hk0)
          · rw [if_neg c4] at h
            cases hz5 : M_bits x5 s with
            | none => rw [hz5] at h; cases h
            | some v4 =>
            rw [hz5] at h
            dsimp only at h
            cases hz6 : M_bits x4 s with
            | none => rw [hz6] at h; cases h
            | some v5 =>
            rw [hz6] at h
            dsimp only at h
            by_cases c7 : v5 ≤ v4
            · rw [if_pos c7] at h
              exact ax_cut (pc' := 85) (la := [some (.ref 63), some (.int x1), some (.int x2), some (.int x3), some (.int x4), some (.int (x5 + (1))), some (.int v3), none]) [some (.ref 63), some (.int x1), some (.int x2), some (.int x3), some (.int x4), some (.int (x5 + (1))), none, none] (st' := []) (σ' := s) 13 (And.intro rfl (And.intro rfl (And.intro rfl (And.intro rfl (And.intro rfl (And.intro rfl (trivial))))))) (fun _ hh => (And.intro (fun q => absurd c3 q) (fun _ => (And.intro (fun q => absurd q c4) (fun _ => (Exists.intro (some (.int v4), s) (And.intro (e_M_bits d hz5) (Exists.intro (some (.int v5), s) (And.intro (e_M_bits d hz6) (And.intro (fun _ => hh) (fun q => absurd c7 q))))))))))) (ih x1 x2 x3 x4 (x5 + (1)) s _ h hk0)
            · rw [if_neg c7] at h
              exact ax_cut (pc' := 85) (la := [some (.ref 63), some (.int x1), some (.int x2), some (.int x3), some (.int x5), some (.int (x5 + (1))), some (.int v3), none]) [some (.ref 63), some (.int x1), some (.int x2), some (.int x3), some (.int x5), some (.int (x5 + (1))), none, none] (st' := []) (σ' := s) 15 (And.intro rfl (And.intro rfl (And.intro rfl (And.intro rfl (And.intro rfl (And.intro rfl (trivial))))))) (fun _ hh => (And.intro (fun q => absurd c3 q) (fun _ => (And.intro (fun q => absurd q c4) (fun _ => (Exists.intro (some (.int v4), s) (And.intro (e_M_bits d hz5) (Exists.intro (some (.int v5), s) (And.intro (e_M_bits d hz6) (And.intro (fun q => absurd q c7) (fun _ => hh))))))))))) (ih x1 x2 x3 x5 (x5 + (1)) s _ h hk0)
        · rw [if_neg c3] at h
          exact ax_cut (pc' := 85) (la := [some (.ref 63), some (.int x1), some (.int x2), some (.int x3), some (.int x4), some (.int (x5 + (1))), some (.int v3), none]) [some (.ref 63), some (.int x1), some (.int x2), some (.int x3), some (.int x4), some (.int (x5 + (1))), none, none] (st' := []) (σ' := s) 5 (And.intro rfl (And.intro rfl (And.intro rfl (And.intro rfl (And.intro rfl (And.intro rfl (trivial))))))) (fun _ hh => (And.intro (fun _ => hh) (fun q => absurd c3 q))) (ih x1 x2 x3 x4 (x5 + (1)) s _ h hk0)
theorem e_M_offcuts (d : Nat) {x1 : Int32} {x2 : Int32} {x3 : Int32} {s : ax_S} {r : Int32 × ax_S} (h : M_offcuts x1 x2 x3 s = some r) : ax_ev true (d + 2) 275 [.ref 63, .int x1, .int x2, .int x3] s (some (.int r.1), r.2) := by
  refine ⟨Nat.le_of_ble_eq_true rfl, ?_⟩
  show ax_go true none (ax_ev true (d + 1)) ax_m275 0 [some (.ref 63), some (.int x1), some (.int x2), some (.int x3), none, none, none, none] [] s _
  unfold M_offcuts at h
  by_cases c1 : (M_in x1 (1 : Int32) (8 : Int32) s) = 0
  · rw [if_pos c1] at h
    have h := Option.some.inj h
    subst r
    exact ax_end 7 (Exists.intro (some (.int (M_in x1 (1 : Int32) (8 : Int32) s)), s) (And.intro (e_M_in d x1 (1 : Int32) (8 : Int32) s) (And.intro (fun _ => rfl) (fun q => absurd c1 q))))
  · rw [if_neg c1] at h
    by_cases c2 : (M_in x2 (1 : Int32) (240 : Int32) s) = 0
    · rw [if_pos c2] at h
      have h := Option.some.inj h
      subst r
      exact ax_end 12 (Exists.intro (some (.int (M_in x1 (1 : Int32) (8 : Int32) s)), s) (And.intro (e_M_in d x1 (1 : Int32) (8 : Int32) s) (And.intro (fun q => absurd q c1) (fun _ => (Exists.intro (some (.int (M_in x2 (1 : Int32) (240 : Int32) s)), s) (And.intro (e_M_in d x2 (1 : Int32) (240 : Int32) s) (And.intro (fun _ => rfl) (fun q => absurd c2 q))))))))
    · rw [if_neg c2] at h
      by_cases c3 : (M_in x3 (0 : Int32) (1 : Int32) s) = 0
      · rw [if_pos c3] at h
        refine ax_cut (pc' := 39) (la := [some (.ref 63), some (.int x1), some (.int x2), some (.int x3), none, none, none, none]) [none, none, none, none, none, none, none, none] (st' := [.int (-1 : Int32)]) (σ' := s) 16 (trivial) (fun _ hh => (Exists.intro (some (.int (M_in x1 (1 : Int32) (8 : Int32) s)), s) (And.intro (e_M_in d x1 (1 : Int32) (8 : Int32) s) (And.intro (fun q => absurd q c1) (fun _ => (Exists.intro (some (.int (M_in x2 (1 : Int32) (240 : Int32) s)), s) (And.intro (e_M_in d x2 (1 : Int32) (240 : Int32) s) (And.intro (fun q => absurd q c2) (fun _ => (Exists.intro (some (.int (M_in x3 (0 : Int32) (1 : Int32) s)), s) (And.intro (e_M_in d x3 (0 : Int32) (1 : Int32) s) (And.intro (fun _ => hh) (fun q => absurd c3 q))))))))))))) ?_
        have h := Option.some.inj h
        subst r
        exact ax_end 1 rfl
      · rw [if_neg c3] at h
        refine ax_cut (pc' := 31) (la := [some (.ref 63), some (.int x1), some (.int x2), some (.int x3), none, none, none, none]) [some (.ref 63), some (.int x1), some (.int x2), some (.int x3), none, none, none, none] (st' := [.int x1]) (σ' := s) 16 (And.intro rfl (And.intro rfl (And.intro rfl (And.intro rfl (trivial))))) (fun _ hh => (Exists.intro (some (.int (M_in x1 (1 : Int32) (8 : Int32) s)), s) (And.intro (e_M_in d x1 (1 : Int32) (8 : Int32) s) (And.intro (fun q => absurd q c1) (fun _ => (Exists.intro (some (.int (M_in x2 (1 : Int32) (240 : Int32) s)), s) (And.intro (e_M_in d x2 (1 : Int32) (240 : Int32) s) (And.intro (fun q => absurd q c2) (fun _ => (Exists.intro (some (.int (M_in x3 (0 : Int32) (1 : Int32) s)), s) (And.intro (e_M_in d x3 (0 : Int32) (1 : Int32) s) (And.intro (fun q => absurd q c3) (fun _ => hh))))))))))))) ?_
        by_cases c4 : x1 ≤ (s.2.1 63 5)
        · rw [if_pos c4] at h
          cases hz5 : M_offcuts_l48 70000 x1 x2 x3 (0 : Int32) (ax_sI s 63 5 (0 : Int32)) with
          | none => rw [hz5] at h; cases h
          | some z5 =>
          rw [hz5] at h
          refine ax_cut (pc' := 48) (la := [some (.ref 63), some (.int x1), some (.int x2), some (.int x3), some (.int (0 : Int32)), none, none, none]) [some (.ref 63), some (.int x1), some (.int x2), some (.int x3), some (.int (0 : Int32)), none, none, none] (st' := []) (σ' := (ax_sI s 63 5 (0 : Int32))) 8 (And.intro rfl (And.intro rfl (And.intro rfl (And.intro rfl (And.intro rfl (trivial)))))) (fun _ hh => (And.intro (fun _ => hh) (fun q => absurd c4 q))) (w_M_offcuts_l48 d 70000 x1 x2 x3 (0 : Int32) (ax_sI s 63 5 (0 : Int32)) _ hz5 ?_ ?_)
          · intro  hq
            subst z5
            dsimp only at h
            cases hz6 : M_offcuts_l85 70000 x1 x2 x3 (-2 : Int32) (1 : Int32) (ax_sI s 63 5 (0 : Int32)) with
            | none => rw [hz6] at h; cases h
            | some z6 =>
            rw [hz6] at h
            refine ax_cut (pc' := 85) (la := [some (.ref 63), some (.int x1), some (.int x2), some (.int x3), some (.int (-2 : Int32)), some (.int (1 : Int32)), none, none]) [some (.ref 63), some (.int x1), some (.int x2), some (.int x3), some (.int (-2 : Int32)), some (.int (1 : Int32)), none, none] (st' := []) (σ' := (ax_sI s 63 5 (0 : Int32))) 4 (And.intro rfl (And.intro rfl (And.intro rfl (And.intro rfl (And.intro rfl (And.intro rfl (trivial))))))) (fun _ hh => hh) (w_M_offcuts_l85 d 70000 x1 x2 x3 (-2 : Int32) (1 : Int32) (ax_sI s 63 5 (0 : Int32)) _ hz6 ?_)
            · intro v6 hq
              subst z6
              dsimp only at h
              by_cases c7 : x3 = (1 : Int32)
              · rw [if_pos c7] at h
                have h := Option.some.inj h
                subst r
                exact ax_end 6 (And.intro (fun _ => rfl) (fun q => absurd c7 q))
              · rw [if_neg c7] at h
                by_cases c8 : v6 = (-2 : Int32)
                · rw [if_pos c8] at h
                  have h := Option.some.inj h
                  subst r
                  exact ax_end 9 (And.intro (fun q => absurd q c7) (fun _ => (And.intro (fun q => absurd c8 q) (fun _ => rfl))))
                · rw [if_neg c8] at h
                  cases hz9 : M_bits v6 (ax_sI s 63 5 (0 : Int32)) with
                  | none => rw [hz9] at h; cases h
                  | some v7 =>
                  rw [hz9] at h
                  dsimp only at h
                  have h := Option.some.inj h
                  subst r
                  exact ax_end 9 (And.intro (fun q => absurd q c7) (fun _ => (And.intro (fun _ => (Exists.intro (some (.int v7), (ax_sI s 63 5 (0 : Int32))) (And.intro (e_M_bits d hz9) rfl))) (fun q => absurd c8 q))))
          · intro q hq
            subst z5
            dsimp only at h
            cases h
            rfl
        · rw [if_neg c4] at h
          have h := Option.some.inj h
          subst r
          exact ax_end 5 (And.intro (fun q => absurd q c4) (fun _ => rfl))
def XSh_creases_l25 : Nat → Int32 → Int32 → Int32 → Int32 → Int32 → Int32 → ax_S → Option (Int32)
  | 0, _, _, _, _, _, _, _ => none
  | n + 1, x1, x2, x3, x4, x5, x6, s =>
    if x3 ≤ x6 then (
      some x5) else
    XSh_creases_l25 n x1 x2 x3 x4 (x5 ||| (((1 : Int32) - ((x2 >>> (((x3 - (1 : Int32)) - x6) &&& 31)) &&& (1 : Int32))) <<< (x6 &&& 31))) (x6 + (1)) s
def XSh_creases_l7 : Nat → Int32 → Int32 → Int32 → Int32 → ax_S → Option (Int32)
  | 0, _, _, _, _, _ => none
  | n + 1, x1, x2, x3, x4, s =>
    if x1 ≤ x4 then (
      some x2) else
    if (4 : Int32) ≤ x4 then (
      some x2) else
    match XSh_creases_l25 70000 x1 x2 x3 x4 (0 : Int32) (0 : Int32) s with
    | none => none
    | some v1 =>
      XSh_creases_l7 n x1 (x2 ||| (((1 : Int32) <<< (x3 &&& 31)) ||| (v1 <<< ((x3 + (1 : Int32)) &&& 31)))) (((2 : Int32) * x3) + (1 : Int32)) (x4 + (1)) s
def XSh_creases (x1 : Int32)  (s : ax_S) : Option (Int32) :=
  match XSh_creases_l7 70000 x1 (0 : Int32) (0 : Int32) (0 : Int32) s with
  | none => none
  | some v2 =>
    some v2
theorem w_XSh_creases_l25 (d : Nat) {o : ax_O} : ∀ (n : Nat) (x1 : Int32) (x2 : Int32) (x3 : Int32) (x4 : Int32) (x5 : Int32) (x6 : Int32) (s : ax_S) (r : Int32) (h : XSh_creases_l25 n x1 x2 x3 x4 x5 x6 s = some r) (hk0 : ∀ (t0 : Int32), r = t0 → ax_go true none (ax_ev true (d + 0)) ax_m157 61 [none, some (.int x1), some (.int x2), some (.int x3), some (.int x4), some (.int t0), none, none] [] s o), ax_go true none (ax_ev true (d + 0)) ax_m157 25 [none, some (.int x1), some (.int x2), some (.int x3), some (.int x4), some (.int x5), some (.int x6), none] [] s o := by
  intro n
  induction n with
  | zero => intro x1 x2 x3 x4 x5 x6 s r h hk0; cases h
  | succ n ih =>
    intro x1 x2 x3 x4 x5 x6 s r h hk0
    rw [XSh_creases_l25] at h
    by_cases c1 : x3 ≤ x6
    · rw [if_pos c1] at h
      have h := Option.some.inj h
      subst r
      exact ax_cut (pc' := 61) (la := [none, some (.int x1), some (.int x2), some (.int x3), some (.int x4), some (.int x5), some (.int x6), none]) [none, some (.int x1), some (.int x2), some (.int x3), some (.int x4), some (.int x5), none, none] (st' := []) (σ' := s) 3 (And.intro rfl (And.intro rfl (And.intro rfl (And.intro rfl (And.intro rfl (trivial)))))) (fun _ hh => (And.intro (fun _ => hh) (fun q => absurd c1 q))) (hk0 _ rfl)
    · rw [if_neg c1] at h
      refine ax_cut (pc' := 47) (la := [none, some (.int x1), some (.int x2), some (.int x3), some (.int x4), some (.int x5), some (.int x6), some (.int ((1 : Int32) - ((x2 >>> (((x3 - (1 : Int32)) - x6) &&& 31)) &&& (1 : Int32))))]) [none, some (.int x1), some (.int x2), some (.int x3), some (.int x4), none, some (.int x6), some (.int ((1 : Int32) - ((x2 >>> (((x3 - (1 : Int32)) - x6) &&& 31)) &&& (1 : Int32))))] (st' := [.int x5]) (σ' := s) 16 (And.intro rfl (And.intro rfl (And.intro rfl (And.intro rfl (And.intro rfl (And.intro rfl (trivial))))))) (fun _ hh => (And.intro (fun q => absurd q c1) (fun _ => hh))) ?_
      exact ax_cut (pc' := 25) (la := [none, some (.int x1), some (.int x2), some (.int x3), some (.int x4), some (.int (x5 ||| (((1 : Int32) - ((x2 >>> (((x3 - (1 : Int32)) - x6) &&& 31)) &&& (1 : Int32))) <<< (x6 &&& 31)))), some (.int (x6 + (1))), some (.int ((1 : Int32) - ((x2 >>> (((x3 - (1 : Int32)) - x6) &&& 31)) &&& (1 : Int32))))]) [none, some (.int x1), some (.int x2), some (.int x3), some (.int x4), some (.int (x5 ||| (((1 : Int32) - ((x2 >>> (((x3 - (1 : Int32)) - x6) &&& 31)) &&& (1 : Int32))) <<< (x6 &&& 31)))), some (.int (x6 + (1))), none] (st' := []) (σ' := s) 7 (And.intro rfl (And.intro rfl (And.intro rfl (And.intro rfl (And.intro rfl (And.intro rfl (trivial))))))) (fun _ hh => hh) (ih x1 x2 x3 x4 (x5 ||| (((1 : Int32) - ((x2 >>> (((x3 - (1 : Int32)) - x6) &&& 31)) &&& (1 : Int32))) <<< (x6 &&& 31))) (x6 + (1)) s _ h hk0)
theorem w_XSh_creases_l7 (d : Nat) {o : ax_O} : ∀ (n : Nat) (x1 : Int32) (x2 : Int32) (x3 : Int32) (x4 : Int32) (s : ax_S) (r : Int32) (h : XSh_creases_l7 n x1 x2 x3 x4 s = some r) (hk0 : ∀ (t0 : Int32), r = t0 → ax_go true none (ax_ev true (d + 0)) ax_m157 86 [none, none, some (.int t0), none, none, none, none, none] [] s o), ax_go true none (ax_ev true (d + 0)) ax_m157 7 [none, some (.int x1), some (.int x2), some (.int x3), some (.int x4), none, none, none] [] s o := by
  intro n
  induction n with
  | zero => intro x1 x2 x3 x4 s r h hk0; cases h
  | succ n ih =>
    intro x1 x2 x3 x4 s r h hk0
    rw [XSh_creases_l7] at h
    by_cases c1 : x1 ≤ x4
    · rw [if_pos c1] at h
      have h := Option.some.inj h
      subst r
      exact ax_cut (pc' := 86) (la := [none, some (.int x1), some (.int x2), some (.int x3), some (.int x4), none, none, none]) [none, none, some (.int x2), none, none, none, none, none] (st' := []) (σ' := s) 3 (And.intro rfl (trivial)) (fun _ hh => (And.intro (fun _ => hh) (fun q => absurd c1 q))) (hk0 _ rfl)
    · rw [if_neg c1] at h
      by_cases c2 : (4 : Int32) ≤ x4
      · rw [if_pos c2] at h
        have h := Option.some.inj h
        subst r
        exact ax_cut (pc' := 86) (la := [none, some (.int x1), some (.int x2), some (.int x3), some (.int x4), none, none, none]) [none, none, some (.int x2), none, none, none, none, none] (st' := []) (σ' := s) 6 (And.intro rfl (trivial)) (fun _ hh => (And.intro (fun q => absurd q c1) (fun _ => (And.intro (fun _ => hh) (fun q => absurd c2 q))))) (hk0 _ rfl)
      · rw [if_neg c2] at h
        cases hz3 : XSh_creases_l25 70000 x1 x2 x3 x4 (0 : Int32) (0 : Int32) s with
        | none => rw [hz3] at h; cases h
        | some z3 =>
        rw [hz3] at h
        refine ax_cut (pc' := 25) (la := [none, some (.int x1), some (.int x2), some (.int x3), some (.int x4), some (.int (0 : Int32)), some (.int (0 : Int32)), none]) [none, some (.int x1), some (.int x2), some (.int x3), some (.int x4), some (.int (0 : Int32)), some (.int (0 : Int32)), none] (st' := []) (σ' := s) 10 (And.intro rfl (And.intro rfl (And.intro rfl (And.intro rfl (And.intro rfl (And.intro rfl (trivial))))))) (fun _ hh => (And.intro (fun q => absurd q c1) (fun _ => (And.intro (fun q => absurd q c2) (fun _ => hh))))) (w_XSh_creases_l25 d 70000 x1 x2 x3 x4 (0 : Int32) (0 : Int32) s _ hz3 ?_)
        · intro v1 hq
          subst z3
          dsimp only at h
          refine ax_cut (pc' := 78) (la := [none, some (.int x1), some (.int (x2 ||| (((1 : Int32) <<< (x3 &&& 31)) ||| (v1 <<< ((x3 + (1 : Int32)) &&& 31))))), some (.int x3), some (.int x4), some (.int v1), none, none]) [none, some (.int x1), some (.int (x2 ||| (((1 : Int32) <<< (x3 &&& 31)) ||| (v1 <<< ((x3 + (1 : Int32)) &&& 31))))), none, some (.int x4), none, none, none] (st' := [.int (1 : Int32), .int ((2 : Int32) * x3)]) (σ' := s) 16 (And.intro rfl (And.intro rfl (And.intro rfl (trivial)))) (fun _ hh => hh) ?_
          exact ax_cut (pc' := 7) (la := [none, some (.int x1), some (.int (x2 ||| (((1 : Int32) <<< (x3 &&& 31)) ||| (v1 <<< ((x3 + (1 : Int32)) &&& 31))))), some (.int (((2 : Int32) * x3) + (1 : Int32))), some (.int (x4 + (1))), none, none, none]) [none, some (.int x1), some (.int (x2 ||| (((1 : Int32) <<< (x3 &&& 31)) ||| (v1 <<< ((x3 + (1 : Int32)) &&& 31))))), some (.int (((2 : Int32) * x3) + (1 : Int32))), some (.int (x4 + (1))), none, none, none] (st' := []) (σ' := s) 4 (And.intro rfl (And.intro rfl (And.intro rfl (And.intro rfl (trivial))))) (fun _ hh => hh) (ih x1 (x2 ||| (((1 : Int32) <<< (x3 &&& 31)) ||| (v1 <<< ((x3 + (1 : Int32)) &&& 31)))) (((2 : Int32) * x3) + (1 : Int32)) (x4 + (1)) s _ h hk0)
theorem e_XSh_creases (d : Nat) {x1 : Int32} {s : ax_S} {r : Int32} (h : XSh_creases x1 s = some r) : ax_ev true (d + 1) 157 [.ref 59, .int x1] s (some (.int r), s) := by
  refine ⟨Nat.le_of_ble_eq_true rfl, ?_⟩
  show ax_go true none (ax_ev true (d + 0)) ax_m157 0 [some (.ref 59), some (.int x1), none, none, none, none, none, none] [] s _
  unfold XSh_creases at h
  cases hz1 : XSh_creases_l7 70000 x1 (0 : Int32) (0 : Int32) (0 : Int32) s with
  | none => rw [hz1] at h; cases h
  | some z1 =>
  rw [hz1] at h
  refine ax_cut (pc' := 7) (la := [some (.ref 59), some (.int x1), some (.int (0 : Int32)), some (.int (0 : Int32)), some (.int (0 : Int32)), none, none, none]) [none, some (.int x1), some (.int (0 : Int32)), some (.int (0 : Int32)), some (.int (0 : Int32)), none, none, none] (st' := []) (σ' := s) 6 (And.intro rfl (And.intro rfl (And.intro rfl (And.intro rfl (trivial))))) (fun _ hh => hh) (w_XSh_creases_l7 d 70000 x1 (0 : Int32) (0 : Int32) (0 : Int32) s _ hz1 ?_)
  · intro v2 hq
    subst z1
    dsimp only at h
    have h := Option.some.inj h
    subst r
    exact ax_end 2 rfl
def X_fold (x1 : Int32)  (s : ax_S) : Option (Int32) :=
  if (X_isWithin x1 (1 : Int32) (4 : Int32) s) = 0 then (
    some (-1 : Int32)) else
  match XSh_creases x1 s with
  | none => none
  | some v1 =>
    some v1
theorem e_X_fold (d : Nat) {x1 : Int32} {s : ax_S} {r : Int32} (h : X_fold x1 s = some r) : ax_ev true (d + 2) 156 [.ref 0, .int x1] s (some (.int r), s) := by
  refine ⟨Nat.le_of_ble_eq_true rfl, ?_⟩
  show ax_go true none (ax_ev true (d + 1)) ax_m156 0 [some (.ref 0), some (.int x1)] [] s _
  unfold X_fold at h
  by_cases c1 : (X_isWithin x1 (1 : Int32) (4 : Int32) s) = 0
  · rw [if_pos c1] at h
    have h := Option.some.inj h
    subst r
    exact ax_end 7 (Exists.intro (some (.int (X_isWithin x1 (1 : Int32) (4 : Int32) s)), s) (And.intro (e_X_isWithin d x1 (1 : Int32) (4 : Int32) s) (And.intro (fun _ => rfl) (fun q => absurd c1 q))))
  · rw [if_neg c1] at h
    cases hz2 : XSh_creases x1 s with
    | none => rw [hz2] at h; cases h
    | some v1 =>
    rw [hz2] at h
    dsimp only at h
    have h := Option.some.inj h
    subst r
    exact ax_end 11 (Exists.intro (some (.int (X_isWithin x1 (1 : Int32) (4 : Int32) s)), s) (And.intro (e_X_isWithin d x1 (1 : Int32) (4 : Int32) s) (And.intro (fun q => absurd q c1) (fun _ => (Exists.intro (some (.int v1), s) (And.intro (e_XSh_creases d hz2) rfl))))))
def M_fold_l34 : Nat → Int32 → Int32 → Int32 → Int32 → Int32 → Int32 → ax_S → Option (Int32)
  | 0, _, _, _, _, _, _, _ => none
  | n + 1, x1, x2, x3, x4, x5, x6, s =>
    if x3 ≤ x6 then (
      some x5) else
    if (M_has x2 ((x3 - (1 : Int32)) - x6) s) = 0 then (
      M_fold_l34 n x1 x2 x3 x4 (x5 ||| ((1 : Int32) <<< (((x3 + (1 : Int32)) + x6) &&& 31))) (x6 + (1)) s) else
    M_fold_l34 n x1 x2 x3 x4 x5 (x6 + (1)) s
def M_fold_l18 : Nat → Int32 → Int32 → Int32 → Int32 → ax_S → Option (Int32)
  | 0, _, _, _, _, _ => none
  | n + 1, x1, x2, x3, x4, s =>
    if x1 ≤ x4 then (
      some x2) else
    match M_fold_l34 70000 x1 x2 x3 x4 (x2 ||| ((1 : Int32) <<< (x3 &&& 31))) (0 : Int32) s with
    | none => none
    | some v1 =>
      M_fold_l18 n x1 v1 (((2 : Int32) * x3) + (1 : Int32)) (x4 + (1)) s
def M_fold (x1 : Int32)  (s : ax_S) : Option (Int32) :=
  if (M_in x1 (1 : Int32) (4 : Int32) s) = 0 then (
    some (-1 : Int32)) else
  match M_fold_l18 70000 x1 (1 : Int32) (1 : Int32) (1 : Int32) s with
  | none => none
  | some v2 =>
    some v2
theorem w_M_fold_l34 (d : Nat) {o : ax_O} : ∀ (n : Nat) (x1 : Int32) (x2 : Int32) (x3 : Int32) (x4 : Int32) (x5 : Int32) (x6 : Int32) (s : ax_S) (r : Int32) (h : M_fold_l34 n x1 x2 x3 x4 x5 x6 s = some r) (hk0 : ∀ (t0 : Int32), r = t0 → ax_go true none (ax_ev true (d + 1)) ax_m276 72 [none, some (.int x1), none, some (.int x3), some (.int x4), some (.int t0), none] [] s o), ax_go true none (ax_ev true (d + 1)) ax_m276 34 [none, some (.int x1), some (.int x2), some (.int x3), some (.int x4), some (.int x5), some (.int x6)] [] s o := by
  intro n
  induction n with
  | zero => intro x1 x2 x3 x4 x5 x6 s r h hk0; cases h
  | succ n ih =>
    intro x1 x2 x3 x4 x5 x6 s r h hk0
    rw [M_fold_l34] at h
    by_cases c1 : x3 ≤ x6
    · rw [if_pos c1] at h
      have h := Option.some.inj h
      subst r
      exact ax_cut (pc' := 72) (la := [none, some (.int x1), some (.int x2), some (.int x3), some (.int x4), some (.int x5), some (.int x6)]) [none, some (.int x1), none, some (.int x3), some (.int x4), some (.int x5), none] (st' := []) (σ' := s) 3 (And.intro rfl (And.intro rfl (And.intro rfl (And.intro rfl (trivial))))) (fun _ hh => (And.intro (fun _ => hh) (fun q => absurd c1 q))) (hk0 _ rfl)
    · rw [if_neg c1] at h
      by_cases c2 : (M_has x2 ((x3 - (1 : Int32)) - x6) s) = 0
      · rw [if_pos c2] at h
        refine ax_cut (pc' := 59) (la := [none, some (.int x1), some (.int x2), some (.int x3), some (.int x4), some (.int x5), some (.int x6)]) [none, some (.int x1), some (.int x2), some (.int x3), some (.int x4), none, some (.int x6)] (st' := [.int (x3 + (1 : Int32)), .int (1 : Int32), .int x5]) (σ' := s) 16 (And.intro rfl (And.intro rfl (And.intro rfl (And.intro rfl (And.intro rfl (trivial)))))) (fun _ hh => (And.intro (fun q => absurd q c1) (fun _ => (Exists.intro (some (.int (M_has x2 ((x3 - (1 : Int32)) - x6) s)), s) (And.intro (e_M_has d x2 ((x3 - (1 : Int32)) - x6) s) (And.intro (fun q => absurd c2 q) (fun _ => hh))))))) ?_
        exact ax_cut (pc' := 34) (la := [none, some (.int x1), some (.int x2), some (.int x3), some (.int x4), some (.int (x5 ||| ((1 : Int32) <<< (((x3 + (1 : Int32)) + x6) &&& 31)))), some (.int (x6 + (1)))]) [none, some (.int x1), some (.int x2), some (.int x3), some (.int x4), some (.int (x5 ||| ((1 : Int32) <<< (((x3 + (1 : Int32)) + x6) &&& 31)))), some (.int (x6 + (1)))] (st' := []) (σ' := s) 7 (And.intro rfl (And.intro rfl (And.intro rfl (And.intro rfl (And.intro rfl (And.intro rfl (trivial))))))) (fun _ hh => hh) (ih x1 x2 x3 x4 (x5 ||| ((1 : Int32) <<< (((x3 + (1 : Int32)) + x6) &&& 31))) (x6 + (1)) s _ h hk0)
      · rw [if_neg c2] at h
        exact ax_cut (pc' := 34) (la := [none, some (.int x1), some (.int x2), some (.int x3), some (.int x4), some (.int x5), some (.int (x6 + (1)))]) [none, some (.int x1), some (.int x2), some (.int x3), some (.int x4), some (.int x5), some (.int (x6 + (1)))] (st' := []) (σ' := s) 13 (And.intro rfl (And.intro rfl (And.intro rfl (And.intro rfl (And.intro rfl (And.intro rfl (trivial))))))) (fun _ hh => (And.intro (fun q => absurd q c1) (fun _ => (Exists.intro (some (.int (M_has x2 ((x3 - (1 : Int32)) - x6) s)), s) (And.intro (e_M_has d x2 ((x3 - (1 : Int32)) - x6) s) (And.intro (fun _ => hh) (fun q => absurd c2 q))))))) (ih x1 x2 x3 x4 x5 (x6 + (1)) s _ h hk0)
theorem w_M_fold_l18 (d : Nat) {o : ax_O} : ∀ (n : Nat) (x1 : Int32) (x2 : Int32) (x3 : Int32) (x4 : Int32) (s : ax_S) (r : Int32) (h : M_fold_l18 n x1 x2 x3 x4 s = some r) (hk0 : ∀ (t0 : Int32), r = t0 → ax_go true none (ax_ev true (d + 1)) ax_m276 87 [none, none, some (.int t0), none, none, none, none] [] s o), ax_go true none (ax_ev true (d + 1)) ax_m276 18 [none, some (.int x1), some (.int x2), some (.int x3), some (.int x4), none, none] [] s o := by
  intro n
  induction n with
  | zero => intro x1 x2 x3 x4 s r h hk0; cases h
  | succ n ih =>
    intro x1 x2 x3 x4 s r h hk0
    rw [M_fold_l18] at h
    by_cases c1 : x1 ≤ x4
    · rw [if_pos c1] at h
      have h := Option.some.inj h
      subst r
      exact ax_cut (pc' := 87) (la := [none, some (.int x1), some (.int x2), some (.int x3), some (.int x4), none, none]) [none, none, some (.int x2), none, none, none, none] (st' := []) (σ' := s) 3 (And.intro rfl (trivial)) (fun _ hh => (And.intro (fun _ => hh) (fun q => absurd c1 q))) (hk0 _ rfl)
    · rw [if_neg c1] at h
      cases hz2 : M_fold_l34 70000 x1 x2 x3 x4 (x2 ||| ((1 : Int32) <<< (x3 &&& 31))) (0 : Int32) s with
      | none => rw [hz2] at h; cases h
      | some z2 =>
      rw [hz2] at h
      refine ax_cut (pc' := 34) (la := [none, some (.int x1), some (.int x2), some (.int x3), some (.int x4), some (.int (x2 ||| ((1 : Int32) <<< (x3 &&& 31)))), some (.int (0 : Int32))]) [none, some (.int x1), some (.int x2), some (.int x3), some (.int x4), some (.int (x2 ||| ((1 : Int32) <<< (x3 &&& 31)))), some (.int (0 : Int32))] (st' := []) (σ' := s) 11 (And.intro rfl (And.intro rfl (And.intro rfl (And.intro rfl (And.intro rfl (And.intro rfl (trivial))))))) (fun _ hh => (And.intro (fun q => absurd q c1) (fun _ => hh))) (w_M_fold_l34 d 70000 x1 x2 x3 x4 (x2 ||| ((1 : Int32) <<< (x3 &&& 31))) (0 : Int32) s _ hz2 ?_)
      · intro v1 hq
        subst z2
        dsimp only at h
        exact ax_cut (pc' := 18) (la := [none, some (.int x1), some (.int v1), some (.int (((2 : Int32) * x3) + (1 : Int32))), some (.int (x4 + (1))), some (.int v1), none]) [none, some (.int x1), some (.int v1), some (.int (((2 : Int32) * x3) + (1 : Int32))), some (.int (x4 + (1))), none, none] (st' := []) (σ' := s) 10 (And.intro rfl (And.intro rfl (And.intro rfl (And.intro rfl (trivial))))) (fun _ hh => hh) (ih x1 v1 (((2 : Int32) * x3) + (1 : Int32)) (x4 + (1)) s _ h hk0)
theorem e_M_fold (d : Nat) {x1 : Int32} {s : ax_S} {r : Int32} (h : M_fold x1 s = some r) : ax_ev true (d + 2) 276 [.ref 63, .int x1] s (some (.int r), s) := by
  refine ⟨Nat.le_of_ble_eq_true rfl, ?_⟩
  show ax_go true none (ax_ev true (d + 1)) ax_m276 0 [some (.ref 63), some (.int x1), none, none, none, none, none] [] s _
  unfold M_fold at h
  by_cases c1 : (M_in x1 (1 : Int32) (4 : Int32) s) = 0
  · rw [if_pos c1] at h
    have h := Option.some.inj h
    subst r
    exact ax_end 7 (Exists.intro (some (.int (M_in x1 (1 : Int32) (4 : Int32) s)), s) (And.intro (e_M_in d x1 (1 : Int32) (4 : Int32) s) (And.intro (fun q => absurd c1 q) (fun _ => rfl))))
  · rw [if_neg c1] at h
    cases hz2 : M_fold_l18 70000 x1 (1 : Int32) (1 : Int32) (1 : Int32) s with
    | none => rw [hz2] at h; cases h
    | some z2 =>
    rw [hz2] at h
    refine ax_cut (pc' := 18) (la := [some (.ref 63), some (.int x1), some (.int (1 : Int32)), some (.int (1 : Int32)), some (.int (1 : Int32)), none, none]) [none, some (.int x1), some (.int (1 : Int32)), some (.int (1 : Int32)), some (.int (1 : Int32)), none, none] (st' := []) (σ' := s) 11 (And.intro rfl (And.intro rfl (And.intro rfl (And.intro rfl (trivial))))) (fun _ hh => (Exists.intro (some (.int (M_in x1 (1 : Int32) (4 : Int32) s)), s) (And.intro (e_M_in d x1 (1 : Int32) (4 : Int32) s) (And.intro (fun _ => hh) (fun q => absurd c1 q))))) (w_M_fold_l18 d 70000 x1 (1 : Int32) (1 : Int32) (1 : Int32) s _ hz2 ?_)
    · intro v2 hq
      subst z2
      dsimp only at h
      have h := Option.some.inj h
      subst r
      exact ax_end 2 rfl
def XSh_isFewer (x0 : Int32) (x1 : Int32)  (s : ax_S) : Int32 :=
  if ((J_bitCount x0 s) - (J_bitCount x1 s)) < 0 then (
    (1 : Int32)) else
  if ((J_bitCount x0 s) - (J_bitCount x1 s)) = 0 then (
    if x1 ≤ x0 then (
      (0 : Int32)) else
    (1 : Int32)) else
  (0 : Int32)
theorem e_XSh_isFewer (d : Nat) (x0 : Int32) (x1 : Int32) (s : ax_S) : ax_ev true (d + 2) 161 [.int x0, .int x1] s (some (.int (XSh_isFewer x0 x1 s)), s) := by
  refine ⟨Nat.le_of_ble_eq_true rfl, ?_⟩
  generalize h : XSh_isFewer x0 x1 s = r
  show ax_go true none (ax_ev true (d + 1)) ax_m161 0 [some (.int x0), some (.int x1), none] [] s _
  unfold XSh_isFewer at h
  by_cases c1 : ((J_bitCount x0 s) - (J_bitCount x1 s)) < 0
  · rw [if_pos c1] at h
    have h := h
    subst r
    exact ax_end 11 (Exists.intro (some (.int (J_bitCount x0 s)), s) (And.intro (e_J_bitCount d x0 s) (Exists.intro (some (.int (J_bitCount x1 s)), s) (And.intro (e_J_bitCount d x1 s) (And.intro (fun _ => (And.intro (Or.inr rfl) rfl)) (fun q => absurd c1 q))))))
  · rw [if_neg c1] at h
    by_cases c2 : ((J_bitCount x0 s) - (J_bitCount x1 s)) = 0
    · rw [if_pos c2] at h
      by_cases c3 : x1 ≤ x0
      · rw [if_pos c3] at h
        have h := h
        subst r
        exact ax_end 15 (Exists.intro (some (.int (J_bitCount x0 s)), s) (And.intro (e_J_bitCount d x0 s) (Exists.intro (some (.int (J_bitCount x1 s)), s) (And.intro (e_J_bitCount d x1 s) (And.intro (fun q => absurd q c1) (fun _ => (And.intro (fun q => absurd c2 q) (fun _ => (And.intro (fun _ => (And.intro (Or.inl rfl) rfl)) (fun q => absurd c3 q))))))))))
      · rw [if_neg c3] at h
        have h := h
        subst r
        exact ax_end 16 (Exists.intro (some (.int (J_bitCount x0 s)), s) (And.intro (e_J_bitCount d x0 s) (Exists.intro (some (.int (J_bitCount x1 s)), s) (And.intro (e_J_bitCount d x1 s) (And.intro (fun q => absurd q c1) (fun _ => (And.intro (fun q => absurd c2 q) (fun _ => (And.intro (fun q => absurd q c3) (fun _ => (And.intro (Or.inr rfl) rfl)))))))))))
    · rw [if_neg c2] at h
      have h := h
      subst r
      exact ax_end 12 (Exists.intro (some (.int (J_bitCount x0 s)), s) (And.intro (e_J_bitCount d x0 s) (Exists.intro (some (.int (J_bitCount x1 s)), s) (And.intro (e_J_bitCount d x1 s) (And.intro (fun q => absurd q c1) (fun _ => (And.intro (fun _ => (And.intro (Or.inl rfl) rfl)) (fun q => absurd c2 q))))))))
def XSh_fewestExplaining_l21 : Nat → Int32 → Int32 → Int32 → Int32 → Int32 → Int32 → Int32 → ax_S → Option (Int32)
  | 0, _, _, _, _, _, _, _, _ => none
  | n + 1, x1, x2, x3, x4, x5, x6, x7, s =>
    if x2 ≤ x7 then (
      some x6) else
    match XTa_byteAt ((x1 + ((2 : Int32) * x7)) + ((x5 >>> (x7 &&& 31)) &&& (1 : Int32))) s with
    | none => none
    | some v1 =>
      XSh_fewestExplaining_l21 n x1 x2 x3 x4 x5 (x6 ||| ((1 : Int32) <<< (v1 &&& 31))) (x7 + (1)) s
def XSh_fewestExplaining_l7 : Nat → Int32 → Int32 → Int32 → Int32 → Int32 → ax_S → Option (Int32)
  | 0, _, _, _, _, _, _ => none
  | n + 1, x1, x2, x3, x4, x5, s =>
    if ((1 : Int32) <<< (x2 &&& 31)) ≤ x5 then (
      some x4) else
    match XSh_fewestExplaining_l21 70000 x1 x2 x3 x4 x5 (0 : Int32) (0 : Int32) s with
    | none => none
    | some v2 =>
      if (v2 &&& (x3 ^^^ (-1 : Int32))) = 0 then (
        if x4 = (-2 : Int32) then (
          XSh_fewestExplaining_l7 n x1 x2 x3 v2 (x5 + (1)) s) else
        if (XSh_isFewer v2 x4 s) = 0 then (
          XSh_fewestExplaining_l7 n x1 x2 x3 x4 (x5 + (1)) s) else
        XSh_fewestExplaining_l7 n x1 x2 x3 v2 (x5 + (1)) s) else
      XSh_fewestExplaining_l7 n x1 x2 x3 x4 (x5 + (1)) s
def XSh_fewestExplaining (x1 : Int32) (x2 : Int32) (x3 : Int32)  (s : ax_S) : Option (Int32) :=
  match XSh_fewestExplaining_l7 70000 x1 x2 x3 (-2 : Int32) (0 : Int32) s with
  | none => none
  | some v3 =>
    some v3
theorem w_XSh_fewestExplaining_l21 (d : Nat) {o : ax_O} : ∀ (n : Nat) (x1 : Int32) (x2 : Int32) (x3 : Int32) (x4 : Int32) (x5 : Int32) (x6 : Int32) (x7 : Int32) (s : ax_S) (r : Int32) (h : XSh_fewestExplaining_l21 n x1 x2 x3 x4 x5 x6 x7 s = some r) (hk0 : ∀ (t0 : Int32), r = t0 → ax_go true none (ax_ev true (d + 2)) ax_m160 61 [some (.ref 59), some (.int x1), some (.int x2), some (.int x3), some (.int x4), some (.int x5), some (.int t0), none] [] s o), ax_go true none (ax_ev true (d + 2)) ax_m160 21 [some (.ref 59), some (.int x1), some (.int x2), some (.int x3), some (.int x4), some (.int x5), some (.int x6), some (.int x7)] [] s o := by
  intro n
  induction n with
  | zero => intro x1 x2 x3 x4 x5 x6 x7 s r h hk0; cases h
  | succ n ih =>
    intro x1 x2 x3 x4 x5 x6 x7 s r h hk0
    rw [XSh_fewestExplaining_l21] at h
    by_cases c1 : x2 ≤ x7
    · rw [if_pos c1] at h
      have h := Option.some.inj h
      subst r
      exact ax_cut (pc' := 61) (la := [some (.ref 59), some (.int x1), some (.int x2), some (.int x3), some (.int x4), some (.int x5), some (.int x6), some (.int x7)]) [some (.ref 59), some (.int x1), some (.int x2), some (.int x3), some (.int x4), some (.int x5), some (.int x6), none] (st' := []) (σ' := s) 3 (And.intro rfl (And.intro rfl (And.intro rfl (And.intro rfl (And.intro rfl (And.intro rfl (And.intro rfl (trivial)))))))) (fun _ hh => (And.intro (fun _ => hh) (fun q => absurd c1 q))) (hk0 _ rfl)
    · rw [if_neg c1] at h
      refine ax_cut (pc' := 46) (la := [some (.ref 59), some (.int x1), some (.int x2), some (.int x3), some (.int x4), some (.int x5), some (.int x6), some (.int x7)]) [some (.ref 59), some (.int x1), some (.int x2), some (.int x3), some (.int x4), some (.int x5), none, some (.int x7)] (st' := [.int (1 : Int32), .int (x5 >>> (x7 &&& 31)), .int (x1 + ((2 : Int32) * x7)), .ref 1, .int (1 : Int32), .int x6]) (σ' := s) 16 (And.intro rfl (And.intro rfl (And.intro rfl (And.intro rfl (And.intro rfl (And.intro rfl (And.intro rfl (trivial)))))))) (fun _ hh => (And.intro (fun q => absurd q c1) (fun _ => hh))) ?_
      cases hz2 : XTa_byteAt ((x1 + ((2 : Int32) * x7)) + ((x5 >>> (x7 &&& 31)) &&& (1 : Int32))) s with
      | none => rw [hz2] at h; cases h
      | some v1 =>
      rw [hz2] at h
      dsimp only at h
      exact ax_cut (pc' := 21) (la := [some (.ref 59), some (.int x1), some (.int x2), some (.int x3), some (.int x4), some (.int x5), some (.int (x6 ||| ((1 : Int32) <<< (v1 &&& 31)))), some (.int (x7 + (1)))]) [some (.ref 59), some (.int x1), some (.int x2), some (.int x3), some (.int x4), some (.int x5), some (.int (x6 ||| ((1 : Int32) <<< (v1 &&& 31)))), some (.int (x7 + (1)))] (st' := []) (σ' := s) 8 (And.intro rfl (And.intro rfl (And.intro rfl (And.intro rfl (And.intro rfl (And.intro rfl (And.intro rfl (And.intro rfl (trivial))))))))) (fun _ hh => (Exists.intro (some (.int v1), s) (And.intro (e_XTa_byteAt (d + 1) hz2) hh))) (ih x1 x2 x3 x4 x5 (x6 ||| ((1 : Int32) <<< (v1 &&& 31))) (x7 + (1)) s _ h hk0)
theorem w_XSh_fewestExplaining_l7 (d : Nat) {o : ax_O} : ∀ (n : Nat) (x1 : Int32) (x2 : Int32) (x3 : Int32) (x4 : Int32) (x5 : Int32) (s : ax_S) (r : Int32) (h : XSh_fewestExplaining_l7 n x1 x2 x3 x4 x5 s = some r) (hk0 : ∀ (t0 : Int32), r = t0 → ax_go true none (ax_ev true (d + 2)) ax_m160 97 [none, none, none, none, some (.int t0), none, none, none] [] s o), ax_go true none (ax_ev true (d + 2)) ax_m160 7 [some (.ref 59), some (.int x1), some (.int x2), some (.int x3), some (.int x4), some (.int x5), none, none] [] s o := by
  intro n
  induction n with
  | zero => intro x1 x2 x3 x4 x5 s r h hk0; cases h
  | succ n ih =>
    intro x1 x2 x3 x4 x5 s r h hk0
    rw [XSh_fewestExplaining_l7] at h
    by_cases c1 : ((1 : Int32) <<< (x2 &&& 31)) ≤ x5
    · rw [if_pos c1] at h
      have h := Option.some.inj h
      subst r
      exact ax_cut (pc' := 97) (la := [some (.ref 59), some (.int x1), some (.int x2), some (.int x3), some (.int x4), some (.int x5), none, none]) [none, none, none, none, some (.int x4), none, none, none] (st' := []) (σ' := s) 5 (And.intro rfl (trivial)) (fun _ hh => (And.intro (fun _ => hh) (fun q => absurd c1 q))) (hk0 _ rfl)
    · rw [if_neg c1] at h
      cases hz2 : XSh_fewestExplaining_l21 70000 x1 x2 x3 x4 x5 (0 : Int32) (0 : Int32) s with
      | none => rw [hz2] at h; cases h
      | some z2 =>
      rw [hz2] at h
      refine ax_cut (pc' := 21) (la := [some (.ref 59), some (.int x1), some (.int x2), some (.int x3), some (.int x4), some (.int x5), some (.int (0 : Int32)), some (.int (0 : Int32))]) [some (.ref 59), some (.int x1), some (.int x2), some (.int x3), some (.int x4), some (.int x5), some (.int (0 : Int32)), some (.int (0 : Int32))] (st' := []) (σ' := s) 9 (And.intro rfl (And.intro rfl (And.intro rfl (And.intro rfl (And.intro rfl (And.intro rfl (And.intro rfl (And.intro rfl (trivial))))))))) (fun _ hh => (And.intro (fun q => absurd q c1) (fun _ => hh))) (w_XSh_fewestExplaining_l21 d 70000 x1 x2 x3 x4 x5 (0 : Int32) (0 : Int32) s _ hz2 ?_)
      · intro v2 hq
        subst z2
        dsimp only at h
        by_cases c3 : (v2 &&& (x3 ^^^ (-1 : Int32))) = 0
        · rw [if_pos c3] at h
          by_cases c4 : x4 = (-2 : Int32)
          · rw [if_pos c4] at h
            exact ax_cut (pc' := 7) (la := [some (.ref 59), some (.int x1), some (.int x2), some (.int x3), some (.int v2), some (.int (x5 + (1))), some (.int v2), none]) [some (.ref 59), some (.int x1), some (.int x2), some (.int x3), some (.int v2), some (.int (x5 + (1))), none, none] (st' := []) (σ' := s) 13 (And.intro rfl (And.intro rfl (And.intro rfl (And.intro rfl (And.intro rfl (And.intro rfl (trivial))))))) (fun _ hh => (And.intro (fun q => absurd c3 q) (fun _ => (And.intro (fun _ => hh) (fun q => absurd c4 q))))) (ih x1 x2 x3 v2 (x5 + (1)) s _ h hk0)
          · rw [if_neg c4] at h
            by_cases c5 : (XSh_isFewer v2 x4 s) = 0
            · rw [if_pos c5] at h
              exact ax_cut (pc' := 7) (la := [some (.ref 59), some (.int x1), some (.int x2), some (.int x3), some (.int x4), some (.int (x5 + (1))), some (.int v2), none]) [some (.ref 59), some (.int x1), some (.int x2), some (.int x3), some (.int x4), some (.int (x5 + (1))), none, none] (st' := []) (σ' := s) 15 (And.intro rfl (And.intro rfl (And.intro rfl (And.intro rfl (And.intro rfl (And.intro rfl (trivial))))))) (fun _ hh => (And.intro (fun q => absurd c3 q) (fun _ => (And.intro (fun q => absurd q c4) (fun _ => (Exists.intro (some (.int (XSh_isFewer v2 x4 s)), s) (And.intro (e_XSh_isFewer d v2 x4 s) (And.intro (fun _ => hh) (fun q => absurd c5 q))))))))) (ih x1 x2 x3 x4 (x5 + (1)) s _ h hk0)
            · rw [if_neg c5] at h
              refine ax_cut (pc' := 94) (la := [some (.ref 59), some (.int x1), some (.int x2), some (.int x3), some (.int v2), some (.int (x5 + (1))), some (.int v2), none]) [some (.ref 59), some (.int x1), some (.int x2), some (.int x3), some (.int v2), some (.int (x5 + (1))), none, none] (st' := []) (σ' := s) 16 (And.intro rfl (And.intro rfl (And.intro rfl (And.intro rfl (And.intro rfl (And.intro rfl (trivial))))))) (fun _ hh => (And.intro (fun q => absurd c3 q) (fun _ => (And.intro (fun q => absurd q c4) (fun _ => (Exists.intro (some (.int (XSh_isFewer v2 x4 s)), s) (And.intro (e_XSh_isFewer d v2 x4 s) (And.intro (fun q => absurd q c5) (fun _ => hh))))))))) ?_
              exact ax_cut (pc' := 7) (la := [some (.ref 59), some (.int x1), some (.int x2), some (.int x3), some (.int v2), some (.int (x5 + (1))), none, none]) [some (.ref 59), some (.int x1), some (.int x2), some (.int x3), some (.int v2), some (.int (x5 + (1))), none, none] (st' := []) (σ' := s) 1 (And.intro rfl (And.intro rfl (And.intro rfl (And.intro rfl (And.intro rfl (And.intro rfl (trivial))))))) (fun _ hh => hh) (ih x1 x2 x3 v2 (x5 + (1)) s _ h hk0)
        · rw [if_neg c3] at h
          exact ax_cut (pc' := 7) (la := [some (.ref 59), some (.int x1), some (.int x2), some (.int x3), some (.int x4), some (.int (x5 + (1))), some (.int v2), none]) [some (.ref 59), some (.int x1), some (.int x2), some (.int x3), some (.int x4), some (.int (x5 + (1))), none, none] (st' := []) (σ' := s) 8 (And.intro rfl (And.intro rfl (And.intro rfl (And.intro rfl (And.intro rfl (And.intro rfl (trivial))))))) (fun _ hh => (And.intro (fun _ => hh) (fun q => absurd c3 q))) (ih x1 x2 x3 x4 (x5 + (1)) s _ h hk0)
theorem e_XSh_fewestExplaining (d : Nat) {x1 : Int32} {x2 : Int32} {x3 : Int32} {s : ax_S} {r : Int32} (h : XSh_fewestExplaining x1 x2 x3 s = some r) : ax_ev true (d + 3) 160 [.ref 59, .int x1, .int x2, .int x3] s (some (.int r), s) := by
  refine ⟨Nat.le_of_ble_eq_true rfl, ?_⟩
  show ax_go true none (ax_ev true (d + 2)) ax_m160 0 [some (.ref 59), some (.int x1), some (.int x2), some (.int x3), none, none, none, none] [] s _
  unfold XSh_fewestExplaining at h
  cases hz1 : XSh_fewestExplaining_l7 70000 x1 x2 x3 (-2 : Int32) (0 : Int32) s with
  | none => rw [hz1] at h; cases h
  | some z1 =>
  rw [hz1] at h
  refine ax_cut (pc' := 7) (la := [some (.ref 59), some (.int x1), some (.int x2), some (.int x3), some (.int (-2 : Int32)), some (.int (0 : Int32)), none, none]) [some (.ref 59), some (.int x1), some (.int x2), some (.int x3), some (.int (-2 : Int32)), some (.int (0 : Int32)), none, none] (st' := []) (σ' := s) 4 (And.intro rfl (And.intro rfl (And.intro rfl (And.intro rfl (And.intro rfl (And.intro rfl (trivial))))))) (fun _ hh => hh) (w_XSh_fewestExplaining_l7 d 70000 x1 x2 x3 (-2 : Int32) (0 : Int32) s _ hz1 ?_)
  · intro v3 hq
    subst z1
    dsimp only at h
    have h := Option.some.inj h
    subst r
    exact ax_end 2 rfl
def XSh_guess_l5 : Nat → Int32 → Int32 → Int32 → Int32 → Int32 → ax_S → Option ((Unit) ⊕ (Int32))
  | 0, _, _, _, _, _, _ => none
  | n + 1, x1, x2, x3, x4, x5, s =>
    if (((2 : Int32) * x1) + ((2 : Int32) * x2)) ≤ x5 then (
      some (.inl ())) else
    match XTa_byteAt x5 s with
    | none => none
    | some v1 =>
      if (X_isPerson v1 s) = 0 then (
        some (.inr (-3 : Int32))) else
      XSh_guess_l5 n x1 x2 x3 x4 (x5 + (1)) s
def XSh_guess_l47 : Nat → Int32 → Int32 → Int32 → Int32 → Int32 → ax_S → Option (Int32)
  | 0, _, _, _, _, _, _ => none
  | n + 1, x1, x2, x4, x5, x6, s =>
    if x1 ≤ x6 then (
      some x5) else
    match XTa_byteAt ((2 : Int32) * x6) s with
    | none => none
    | some v2 =>
      match XTa_byteAt (((2 : Int32) * x6) + (1 : Int32)) s with
      | none => none
      | some v3 =>
        XSh_guess_l47 n x1 x2 x4 (x5 &&& (((v2 <<< ((8 : Int32) &&& 31)) ||| v3) ^^^ (-1 : Int32))) (x6 + (1)) s
def XSh_guess (x1 : Int32) (x2 : Int32) (x3 : Int32) (x4 : Int32)  (s : ax_S) : Option (Int32) :=
  match XSh_guess_l5 70000 x1 x2 x3 x4 ((2 : Int32) * x1) s with
  | none => none
  | some (.inl _) =>
    match XSh_guess_l47 70000 x1 x2 x4 x3 (0 : Int32) s with
    | none => none
    | some v4 =>
      if x4 = 0 then (
        some v4) else
      match XSh_fewestExplaining ((2 : Int32) * x1) x2 v4 s with
      | none => none
      | some v5 =>
        if x4 = (1 : Int32) then (
          if v5 = (-2 : Int32) then (
            some v5) else
          some (J_bitCount v5 s)) else
        some v5
  | some (.inr r) => some r
theorem w_XSh_guess_l5 (d : Nat) {o : ax_O} : ∀ (n : Nat) (x1 : Int32) (x2 : Int32) (x3 : Int32) (x4 : Int32) (x5 : Int32) (s : ax_S) (r : (Unit) ⊕ (Int32)) (h : XSh_guess_l5 n x1 x2 x3 x4 x5 s = some r) (hk0 : r = (.inl ()) → ax_go true none (ax_ev true (d + 3)) ax_m159 41 [some (.ref 59), some (.int x1), some (.int x2), some (.int x3), some (.int x4), none, none] [] s o) (hkr : ∀ q, r = (.inr q) → o = (some (.int q), s)), ax_go true none (ax_ev true (d + 3)) ax_m159 5 [some (.ref 59), some (.int x1), some (.int x2), some (.int x3), some (.int x4), some (.int x5), none] [] s o := by
  intro n
  induction n with
  | zero => intro x1 x2 x3 x4 x5 s r h hk0 hkr; cases h
  | succ n ih =>
    intro x1 x2 x3 x4 x5 s r h hk0 hkr
    rw [XSh_guess_l5] at h
    by_cases c1 : (((2 : Int32) * x1) + ((2 : Int32) * x2)) ≤ x5
    · rw [if_pos c1] at h
      have h := Option.some.inj h
      subst r
      exact ax_cut (pc' := 41) (la := [some (.ref 59), some (.int x1), some (.int x2), some (.int x3), some (.int x4), some (.int x5), none]) [some (.ref 59), some (.int x1), some (.int x2), some (.int x3), some (.int x4), none, none] (st' := []) (σ' := s) 9 (And.intro rfl (And.intro rfl (And.intro rfl (And.intro rfl (And.intro rfl (trivial)))))) (fun _ hh => (And.intro (fun _ => hh) (fun q => absurd c1 q))) (hk0 rfl)
    · rw [if_neg c1] at h
      cases hz2 : XTa_byteAt x5 s with
      | none => rw [hz2] at h; cases h
      | some v1 =>
      rw [hz2] at h
      dsimp only at h
      by_cases c3 : (X_isPerson v1 s) = 0
      · rw [if_pos c3] at h
        refine ax_cut (pc' := 34) (la := [some (.ref 59), some (.int x1), some (.int x2), some (.int x3), some (.int x4), some (.int x5), none]) [none, none, none, none, none, none, none] (st' := [.int (-3 : Int32)]) (σ' := s) 16 (trivial) (fun _ hh => (And.intro (fun q => absurd q c1) (fun _ => (Exists.intro (some (.int v1), s) (And.intro (e_XTa_byteAt (d + 2) hz2) (Exists.intro (some (.int (X_isPerson v1 s)), s) (And.intro (e_X_isPerson (d + 1) v1 s) (And.intro (fun q => absurd c3 q) (fun _ => hh))))))))) ?_
        have h := Option.some.inj h
        subst r
        exact ax_end 1 (hkr _ rfl)
      · rw [if_neg c3] at h
        refine ax_cut (pc' := 38) (la := [some (.ref 59), some (.int x1), some (.int x2), some (.int x3), some (.int x4), some (.int (x5 + (1))), none]) [some (.ref 59), some (.int x1), some (.int x2), some (.int x3), some (.int x4), some (.int (x5 + (1))), none] (st' := []) (σ' := s) 16 (And.intro rfl (And.intro rfl (And.intro rfl (And.intro rfl (And.intro rfl (And.intro rfl (trivial))))))) (fun _ hh => (And.intro (fun q => absurd q c1) (fun _ => (Exists.intro (some (.int v1), s) (And.intro (e_XTa_byteAt (d + 2) hz2) (Exists.intro (some (.int (X_isPerson v1 s)), s) (And.intro (e_X_isPerson (d + 1) v1 s) (And.intro (fun _ => hh) (fun q => absurd c3 q))))))))) ?_
        exact ax_cut (pc' := 5) (la := [some (.ref 59), some (.int x1), some (.int x2), some (.int x3), some (.int x4), some (.int (x5 + (1))), none]) [some (.ref 59), some (.int x1), some (.int x2), some (.int x3), some (.int x4), some (.int (x5 + (1))), none] (st' := []) (σ' := s) 1 (And.intro rfl (And.intro rfl (And.intro rfl (And.intro rfl (And.intro rfl (And.intro rfl (trivial))))))) (fun _ hh => hh) (ih x1 x2 x3 x4 (x5 + (1)) s _ h hk0 hkr)
theorem w_XSh_guess_l47 (d : Nat) {o : ax_O} : ∀ (n : Nat) (x1 : Int32) (x2 : Int32) (x4 : Int32) (x5 : Int32) (x6 : Int32) (s : ax_S) (r : Int32) (h : XSh_guess_l47 n x1 x2 x4 x5 x6 s = some r) (hk0 : ∀ (t0 : Int32), r = t0 → ax_go true none (ax_ev true (d + 3)) ax_m159 94 [some (.ref 59), some (.int x1), some (.int x2), none, some (.int x4), some (.int t0), none] [] s o), ax_go true none (ax_ev true (d + 3)) ax_m159 47 [some (.ref 59), some (.int x1), some (.int x2), none, some (.int x4), some (.int x5), some (.int x6)] [] s o := by
  intro n
  induction n with
  | zero => intro x1 x2 x4 x5 x6 s r h hk0; cases h
  | succ n ih =>
    intro x1 x2 x4 x5 x6 s r h hk0
    rw [XSh_guess_l47] at h
    by_cases c1 : x1 ≤ x6
    · rw [if_pos c1] at h
      have h := Option.some.inj h
      subst r
      exact ax_cut (pc' := 94) (la := [some (.ref 59), some (.int x1), some (.int x2), none, some (.int x4), some (.int x5), some (.int x6)]) [some (.ref 59), some (.int x1), some (.int x2), none, some (.int x4), some (.int x5), none] (st' := []) (σ' := s) 3 (And.intro rfl (And.intro rfl (And.intro rfl (And.intro rfl (And.intro rfl (trivial)))))) (fun _ hh => (And.intro (fun _ => hh) (fun q => absurd c1 q))) (hk0 _ rfl)
    · rw [if_neg c1] at h
      cases hz2 : XTa_byteAt ((2 : Int32) * x6) s with
      | none => rw [hz2] at h; cases h
      | some v2 =>
      rw [hz2] at h
      dsimp only at h
      refine ax_cut (pc' := 76) (la := [some (.ref 59), some (.int x1), some (.int x2), none, some (.int x4), some (.int x5), some (.int x6)]) [some (.ref 59), some (.int x1), some (.int x2), none, some (.int x4), none, some (.int x6)] (st' := [.int x6, .int (2 : Int32), .ref 1, .int (v2 <<< ((8 : Int32) &&& 31)), .int x5]) (σ' := s) 16 (And.intro rfl (And.intro rfl (And.intro rfl (And.intro rfl (And.intro rfl (trivial)))))) (fun _ hh => (And.intro (fun q => absurd q c1) (fun _ => (Exists.intro (some (.int v2), s) (And.intro (e_XTa_byteAt (d + 2) hz2) hh))))) ?_
      cases hz3 : XTa_byteAt (((2 : Int32) * x6) + (1 : Int32)) s with
      | none => rw [hz3] at h; cases h
      | some v3 =>
      rw [hz3] at h
      dsimp only at h
      exact ax_cut (pc' := 47) (la := [some (.ref 59), some (.int x1), some (.int x2), none, some (.int x4), some (.int (x5 &&& (((v2 <<< ((8 : Int32) &&& 31)) ||| v3) ^^^ (-1 : Int32)))), some (.int (x6 + (1)))]) [some (.ref 59), some (.int x1), some (.int x2), none, some (.int x4), some (.int (x5 &&& (((v2 <<< ((8 : Int32) &&& 31)) ||| v3) ^^^ (-1 : Int32)))), some (.int (x6 + (1)))] (st' := []) (σ' := s) 11 (And.intro rfl (And.intro rfl (And.intro rfl (And.intro rfl (And.intro rfl (And.intro rfl (trivial))))))) (fun _ hh => (Exists.intro (some (.int v3), s) (And.intro (e_XTa_byteAt (d + 2) hz3) hh))) (ih x1 x2 x4 (x5 &&& (((v2 <<< ((8 : Int32) &&& 31)) ||| v3) ^^^ (-1 : Int32))) (x6 + (1)) s _ h hk0)
theorem e_XSh_guess (d : Nat) {x1 : Int32} {x2 : Int32} {x3 : Int32} {x4 : Int32} {s : ax_S} {r : Int32} (h : XSh_guess x1 x2 x3 x4 s = some r) : ax_ev true (d + 4) 159 [.ref 59, .int x1, .int x2, .int x3, .int x4] s (some (.int r), s) := by
  refine ⟨Nat.le_of_ble_eq_true rfl, ?_⟩
  show ax_go true none (ax_ev true (d + 3)) ax_m159 0 [some (.ref 59), some (.int x1), some (.int x2), some (.int x3), some (.int x4), none, none] [] s _
  unfold XSh_guess at h
  cases hz1 : XSh_guess_l5 70000 x1 x2 x3 x4 ((2 : Int32) * x1) s with
  | none => rw [hz1] at h; cases h
  | some z1 =>
  rw [hz1] at h
  refine ax_cut (pc' := 5) (la := [some (.ref 59), some (.int x1), some (.int x2), some (.int x3), some (.int x4), some (.int ((2 : Int32) * x1)), none]) [some (.ref 59), some (.int x1), some (.int x2), some (.int x3), some (.int x4), some (.int ((2 : Int32) * x1)), none] (st' := []) (σ' := s) 4 (And.intro rfl (And.intro rfl (And.intro rfl (And.intro rfl (And.intro rfl (And.intro rfl (trivial))))))) (fun _ hh => hh) (w_XSh_guess_l5 d 70000 x1 x2 x3 x4 ((2 : Int32) * x1) s _ hz1 ?_ ?_)
  · intro  hq
    subst z1
    dsimp only at h
    cases hz2 : XSh_guess_l47 70000 x1 x2 x4 x3 (0 : Int32) s with
    | none => rw [hz2] at h; cases h
    | some z2 =>
    rw [hz2] at h
    refine ax_cut (pc' := 47) (la := [some (.ref 59), some (.int x1), some (.int x2), some (.int x3), some (.int x4), some (.int x3), some (.int (0 : Int32))]) [some (.ref 59), some (.int x1), some (.int x2), none, some (.int x4), some (.int x3), some (.int (0 : Int32))] (st' := []) (σ' := s) 4 (And.intro rfl (And.intro rfl (And.intro rfl (And.intro rfl (And.intro rfl (And.intro rfl (trivial))))))) (fun _ hh => hh) (w_XSh_guess_l47 d 70000 x1 x2 x4 x3 (0 : Int32) s _ hz2 ?_)
    · intro v4 hq
      subst z2
      dsimp only at h
      by_cases c3 : x4 = 0
      · rw [if_pos c3] at h
        have h := Option.some.inj h
        subst r
        exact ax_end 4 (And.intro (fun q => absurd c3 q) (fun _ => rfl))
      · rw [if_neg c3] at h
        cases hz4 : XSh_fewestExplaining ((2 : Int32) * x1) x2 v4 s with
        | none => rw [hz4] at h; cases h
        | some v5 =>
        rw [hz4] at h
        dsimp only at h
        by_cases c5 : x4 = (1 : Int32)
        · rw [if_pos c5] at h
          by_cases c6 : v5 = (-2 : Int32)
          · rw [if_pos c6] at h
            refine ax_cut (pc' := 135) (la := [some (.ref 59), some (.int x1), some (.int x2), none, some (.int x4), some (.int v4), some (.int v5)]) [none, none, none, none, none, none, some (.int v5)] (st' := []) (σ' := s) 16 (And.intro rfl (trivial)) (fun _ hh => (And.intro (fun _ => (Exists.intro (some (.int v5), s) (And.intro (e_XSh_fewestExplaining d hz4) (And.intro (fun q => absurd c5 q) (fun _ => (And.intro (fun _ => hh) (fun q => absurd c6 q))))))) (fun q => absurd c3 q))) ?_
            have h := Option.some.inj h
            subst r
            exact ax_end 2 rfl
          · rw [if_neg c6] at h
            refine ax_cut (pc' := 127) (la := [some (.ref 59), some (.int x1), some (.int x2), none, some (.int x4), some (.int v4), some (.int v5)]) [none, none, none, none, none, none, some (.int v5)] (st' := []) (σ' := s) 16 (And.intro rfl (trivial)) (fun _ hh => (And.intro (fun _ => (Exists.intro (some (.int v5), s) (And.intro (e_XSh_fewestExplaining d hz4) (And.intro (fun q => absurd c5 q) (fun _ => (And.intro (fun q => absurd q c6) (fun _ => hh))))))) (fun q => absurd c3 q))) ?_
            have h := Option.some.inj h
            subst r
            exact ax_end 4 (Exists.intro (some (.int (J_bitCount v5 s)), s) (And.intro (e_J_bitCount (d + 2) v5 s) rfl))
        · rw [if_neg c5] at h
          have h := Option.some.inj h
          subst r
          exact ax_end 15 (And.intro (fun _ => (Exists.intro (some (.int v5), s) (And.intro (e_XSh_fewestExplaining d hz4) (And.intro (fun _ => rfl) (fun q => absurd c5 q))))) (fun q => absurd c3 q))
  · intro q hq
    subst z1
    dsimp only at h
    cases h
    rfl
def X_told (x1 : Int32) (x2 : Int32) (x3 : Int32) (x4 : Int32)  (s : ax_S) : Option (Int32 × ax_S) :=
  if (X_isWithin x1 (1 : Int32) (12 : Int32) s) = 0 then (
    some ((-1 : Int32), s)) else
  if (X_isWithin x2 (0 : Int32) (10 : Int32) s) = 0 then (
    some ((-1 : Int32), s)) else
  if (X_arePersons x3 s) = 0 then (
    some ((-1 : Int32), s)) else
  if (X_isWithin x4 (0 : Int32) (2 : Int32) s) = 0 then (
    some ((-1 : Int32), s)) else
  if (XTa_holds (((2 : Int32) * x1) + ((2 : Int32) * x2)) s) = 0 then (
    some ((-1 : Int32), s)) else
  match XSh_guess x1 x2 x3 x4 s with
  | none => none
  | some v1 =>
    some (v1, (XTa_clear s))
theorem e_X_told (d : Nat) {x1 : Int32} {x2 : Int32} {x3 : Int32} {x4 : Int32} {s : ax_S} {r : Int32 × ax_S} (h : X_told x1 x2 x3 x4 s = some r) : ax_ev true (d + 5) 158 [.ref 0, .int x1, .int x2, .int x3, .int x4] s (some (.int r.1), r.2) := by
  refine ⟨Nat.le_of_ble_eq_true rfl, ?_⟩
  show ax_go true none (ax_ev true (d + 4)) ax_m158 0 [some (.ref 0), some (.int x1), some (.int x2), some (.int x3), some (.int x4), none] [] s _
  unfold X_told at h
  by_cases c1 : (X_isWithin x1 (1 : Int32) (12 : Int32) s) = 0
  · rw [if_pos c1] at h
    have h := Option.some.inj h
    subst r
    exact ax_end 7 (Exists.intro (some (.int (X_isWithin x1 (1 : Int32) (12 : Int32) s)), s) (And.intro (e_X_isWithin (d + 3) x1 (1 : Int32) (12 : Int32) s) (And.intro (fun _ => rfl) (fun q => absurd c1 q))))
  · rw [if_neg c1] at h
    by_cases c2 : (X_isWithin x2 (0 : Int32) (10 : Int32) s) = 0
    · rw [if_pos c2] at h
      have h := Option.some.inj h
      subst r
      exact ax_end 12 (Exists.intro (some (.int (X_isWithin x1 (1 : Int32) (12 : Int32) s)), s) (And.intro (e_X_isWithin (d + 3) x1 (1 : Int32) (12 : Int32) s) (And.intro (fun q => absurd q c1) (fun _ => (Exists.intro (some (.int (X_isWithin x2 (0 : Int32) (10 : Int32) s)), s) (And.intro (e_X_isWithin (d + 3) x2 (0 : Int32) (10 : Int32) s) (And.intro (fun _ => rfl) (fun q => absurd c2 q))))))))
    · rw [if_neg c2] at h
      by_cases c3 : (X_arePersons x3 s) = 0
      · rw [if_pos c3] at h
        have h := Option.some.inj h
        subst r
        exact ax_end 15 (Exists.intro (some (.int (X_isWithin x1 (1 : Int32) (12 : Int32) s)), s) (And.intro (e_X_isWithin (d + 3) x1 (1 : Int32) (12 : Int32) s) (And.intro (fun q => absurd q c1) (fun _ => (Exists.intro (some (.int (X_isWithin x2 (0 : Int32) (10 : Int32) s)), s) (And.intro (e_X_isWithin (d + 3) x2 (0 : Int32) (10 : Int32) s) (And.intro (fun q => absurd q c2) (fun _ => (Exists.intro (some (.int (X_arePersons x3 s)), s) (And.intro (e_X_arePersons (d + 2) x3 s) (And.intro (fun _ => rfl) (fun q => absurd c3 q))))))))))))
      · rw [if_neg c3] at h
        refine ax_cut (pc' := 31) (la := [some (.ref 0), some (.int x1), some (.int x2), some (.int x3), some (.int x4), none]) [some (.ref 0), some (.int x1), some (.int x2), some (.int x3), some (.int x4), none] (st' := [.int (2 : Int32), .int (0 : Int32), .int x4]) (σ' := s) 16 (And.intro rfl (And.intro rfl (And.intro rfl (And.intro rfl (And.intro rfl (trivial)))))) (fun _ hh => (Exists.intro (some (.int (X_isWithin x1 (1 : Int32) (12 : Int32) s)), s) (And.intro (e_X_isWithin (d + 3) x1 (1 : Int32) (12 : Int32) s) (And.intro (fun q => absurd q c1) (fun _ => (Exists.intro (some (.int (X_isWithin x2 (0 : Int32) (10 : Int32) s)), s) (And.intro (e_X_isWithin (d + 3) x2 (0 : Int32) (10 : Int32) s) (And.intro (fun q => absurd q c2) (fun _ => (Exists.intro (some (.int (X_arePersons x3 s)), s) (And.intro (e_X_arePersons (d + 2) x3 s) (And.intro (fun q => absurd q c3) (fun _ => hh))))))))))))) ?_
        by_cases c4 : (X_isWithin x4 (0 : Int32) (2 : Int32) s) = 0
        · rw [if_pos c4] at h
          have h := Option.some.inj h
          subst r
          exact ax_end 4 (Exists.intro (some (.int (X_isWithin x4 (0 : Int32) (2 : Int32) s)), s) (And.intro (e_X_isWithin (d + 3) x4 (0 : Int32) (2 : Int32) s) (And.intro (fun _ => rfl) (fun q => absurd c4 q))))
        · rw [if_neg c4] at h
          by_cases c5 : (XTa_holds (((2 : Int32) * x1) + ((2 : Int32) * x2)) s) = 0
          · rw [if_pos c5] at h
            have h := Option.some.inj h
            subst r
            exact ax_end 15 (Exists.intro (some (.int (X_isWithin x4 (0 : Int32) (2 : Int32) s)), s) (And.intro (e_X_isWithin (d + 3) x4 (0 : Int32) (2 : Int32) s) (And.intro (fun q => absurd q c4) (fun _ => (Exists.intro (some (.int (XTa_holds (((2 : Int32) * x1) + ((2 : Int32) * x2)) s)), s) (And.intro (e_XTa_holds (d + 3) (((2 : Int32) * x1) + ((2 : Int32) * x2)) s) (And.intro (fun q => absurd c5 q) (fun _ => rfl))))))))
          · rw [if_neg c5] at h
            refine ax_cut (pc' := 61) (la := [some (.ref 0), some (.int x1), some (.int x2), some (.int x3), some (.int x4), none]) [some (.ref 0), none, some (.int x2), some (.int x3), some (.int x4), none] (st' := [.int x1, .ref 59]) (σ' := s) 16 (And.intro rfl (And.intro rfl (And.intro rfl (And.intro rfl (trivial))))) (fun _ hh => (Exists.intro (some (.int (X_isWithin x4 (0 : Int32) (2 : Int32) s)), s) (And.intro (e_X_isWithin (d + 3) x4 (0 : Int32) (2 : Int32) s) (And.intro (fun q => absurd q c4) (fun _ => (Exists.intro (some (.int (XTa_holds (((2 : Int32) * x1) + ((2 : Int32) * x2)) s)), s) (And.intro (e_XTa_holds (d + 3) (((2 : Int32) * x1) + ((2 : Int32) * x2)) s) (And.intro (fun _ => hh) (fun q => absurd c5 q))))))))) ?_
            cases hz6 : XSh_guess x1 x2 x3 x4 s with
            | none => rw [hz6] at h; cases h
            | some v1 =>
            rw [hz6] at h
            dsimp only at h
            have h := Option.some.inj h
            subst r
            exact ax_end 10 (Exists.intro (some (.int v1), s) (And.intro (e_XSh_guess d hz6) (Exists.intro (none, (XTa_clear s)) (And.intro (e_XTa_clear (d + 3)  s) rfl))))
