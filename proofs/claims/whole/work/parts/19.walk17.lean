def XSt_setX_3 (x1 : Int32)  (s : ax_S) : ax_S :=
  (ax_sI s 3 6 x1)
theorem e_XSt_setX_3 (d : Nat) (x1 : Int32) (s : ax_S) : ax_ev true (d + 1) 167 [.ref 3, .int x1] s (none, (XSt_setX_3 x1 s)) := by
  refine ⟨Nat.le_of_ble_eq_true rfl, ?_⟩
  generalize h : XSt_setX_3 x1 s = r
  show ax_go true none (ax_ev true (d + 0)) ax_m167 0 [some (.ref 3), some (.int x1)] [] s _
  unfold XSt_setX_3 at h
  have h := h
  subst r
  exact ax_end 4 rfl
def X_seed (x1 : Int32)  (s : ax_S) : Int32 × ax_S :=
  if (X_isWithin x1 (0 : Int32) (65535 : Int32) s) = 0 then (
    ((0 : Int32), s)) else
  ((1 : Int32), (XSt_setX_3 x1 s))
theorem e_X_seed (d : Nat) (x1 : Int32) (s : ax_S) : ax_ev true (d + 2) 166 [.ref 0, .int x1] s (some (.int (X_seed x1 s).1), (X_seed x1 s).2) := by
  refine ⟨Nat.le_of_ble_eq_true rfl, ?_⟩
  generalize h : X_seed x1 s = r
  show ax_go true none (ax_ev true (d + 1)) ax_m166 0 [some (.ref 0), some (.int x1)] [] s _
  unfold X_seed at h
  by_cases c1 : (X_isWithin x1 (0 : Int32) (65535 : Int32) s) = 0
  · rw [if_pos c1] at h
    have h := h
    subst r
    exact ax_end 7 (Exists.intro (some (.int (X_isWithin x1 (0 : Int32) (65535 : Int32) s)), s) (And.intro (e_X_isWithin d x1 (0 : Int32) (65535 : Int32) s) (And.intro (fun q => absurd c1 q) (fun _ => (And.intro (Or.inl rfl) rfl)))))
  · rw [if_neg c1] at h
    have h := h
    subst r
    exact ax_end 11 (Exists.intro (some (.int (X_isWithin x1 (0 : Int32) (65535 : Int32) s)), s) (And.intro (e_X_isWithin d x1 (0 : Int32) (65535 : Int32) s) (And.intro (fun _ => (Exists.intro (none, (XSt_setX_3 x1 s)) (And.intro (e_XSt_setX_3 d x1 s) (And.intro (Or.inr rfl) rfl)))) (fun q => absurd c1 q))))
def M_seed (x1 : Int32)  (s : ax_S) : Int32 × ax_S :=
  if (M_in x1 (0 : Int32) (65535 : Int32) s) = 0 then (
    ((0 : Int32), s)) else
  ((1 : Int32), (ax_sI s 64 290 x1))
theorem e_M_seed (d : Nat) (x1 : Int32) (s : ax_S) : ax_ev true (d + 2) 281 [.ref 63, .int x1] s (some (.int (M_seed x1 s).1), (M_seed x1 s).2) := by
  refine ⟨Nat.le_of_ble_eq_true rfl, ?_⟩
  generalize h : M_seed x1 s = r
  show ax_go true none (ax_ev true (d + 1)) ax_m281 0 [some (.ref 63), some (.int x1)] [] s _
  unfold M_seed at h
  by_cases c1 : (M_in x1 (0 : Int32) (65535 : Int32) s) = 0
  · rw [if_pos c1] at h
    have h := h
    subst r
    exact ax_end 7 (Exists.intro (some (.int (M_in x1 (0 : Int32) (65535 : Int32) s)), s) (And.intro (e_M_in d x1 (0 : Int32) (65535 : Int32) s) (And.intro (fun q => absurd c1 q) (fun _ => (And.intro (Or.inl rfl) rfl)))))
  · rw [if_neg c1] at h
    have h := h
    subst r
    exact ax_end 12 (Exists.intro (some (.int (M_in x1 (0 : Int32) (65535 : Int32) s)), s) (And.intro (e_M_in d x1 (0 : Int32) (65535 : Int32) s) (And.intro (fun _ => (And.intro (show ¬ ((290 : Int32) < 0 ∨ 291 ≤ ((290 : Int32)).toNatClampNeg) by decide) (And.intro (Or.inr rfl) rfl))) (fun q => absurd c1 q))))
def XFi_copyFrom_15_4  (s : ax_S) : ax_S :=
  (ax_sA (ax_sA (ax_sA (ax_sA (ax_sA s 16 (va_cpy (s.2.1 5) (s.2.1 16) 0 0 12)) 17 (va_cpy (s.2.1 6) (s.2.1 17) 0 0 12)) 18 (va_cpy (s.2.1 7) (s.2.1 18) 0 0 12)) 19 (va_cpy (s.2.1 8) (s.2.1 19) 0 0 12)) 20 (va_cpy (s.2.1 9) (s.2.1 20) 0 0 12))
theorem e_XFi_copyFrom_15_4 (d : Nat)  (s : ax_S) : ax_ev true (d + 1) 69 [.ref 15, .ref 4] s (none, (XFi_copyFrom_15_4 s)) := by
  refine ⟨Nat.le_of_ble_eq_true rfl, ?_⟩
  generalize h : XFi_copyFrom_15_4 s = r
  show ax_go true none (ax_ev true (d + 0)) ax_m69 0 [some (.ref 15), some (.ref 4)] [] s _
  unfold XFi_copyFrom_15_4 at h
  refine ax_cut (pc' := 30) (la := [some (.ref 15), some (.ref 4)]) [some (.ref 15), some (.ref 4)] (st' := []) (σ' := (ax_sA (ax_sA s 16 (va_cpy (s.2.1 5) (s.2.1 16) 0 0 12)) 17 (va_cpy (s.2.1 6) (s.2.1 17) 0 0 12))) 16 (And.intro rfl (And.intro rfl (trivial))) (fun _ hh => (And.intro (show ¬ (0 : Int32) < 0 by decide) (And.intro (show ¬ (0 : Int32) < 0 by decide) (And.intro (show ¬ (12 : Int32) < 0 by decide) (And.intro (by decide) (And.intro (by decide) (And.intro (show ¬ (0 : Int32) < 0 by decide) (And.intro (show ¬ (0 : Int32) < 0 by decide) (And.intro (show ¬ (12 : Int32) < 0 by decide) (And.intro (by decide) (And.intro (by decide) hh))))))))))) ?_
  refine ax_cut (pc' := 60) (la := [some (.ref 15), some (.ref 4)]) [some (.ref 15), some (.ref 4)] (st' := []) (σ' := (ax_sA (ax_sA (ax_sA (ax_sA s 16 (va_cpy (s.2.1 5) (s.2.1 16) 0 0 12)) 17 (va_cpy (s.2.1 6) (s.2.1 17) 0 0 12)) 18 (va_cpy (s.2.1 7) (s.2.1 18) 0 0 12)) 19 (va_cpy (s.2.1 8) (s.2.1 19) 0 0 12))) 16 (And.intro rfl (And.intro rfl (trivial))) (fun _ hh => (And.intro (show ¬ (0 : Int32) < 0 by decide) (And.intro (show ¬ (0 : Int32) < 0 by decide) (And.intro (show ¬ (12 : Int32) < 0 by decide) (And.intro (by decide) (And.intro (by decide) (And.intro (show ¬ (0 : Int32) < 0 by decide) (And.intro (show ¬ (0 : Int32) < 0 by decide) (And.intro (show ¬ (12 : Int32) < 0 by decide) (And.intro (by decide) (And.intro (by decide) hh))))))))))) ?_
  have h := h
  subst r
  exact ax_end 9 (And.intro (show ¬ (0 : Int32) < 0 by decide) (And.intro (show ¬ (0 : Int32) < 0 by decide) (And.intro (show ¬ (12 : Int32) < 0 by decide) (And.intro (by decide) (And.intro (by decide) rfl)))))
def XSt_copyFrom_14_3  (s : ax_S) : ax_S :=
  (ax_sI (ax_sI (ax_sA (ax_sA (ax_sA (ax_sA (XFi_copyFrom_15_4 s) 21 (va_cpy ((XFi_copyFrom_15_4 s).2.1 10) ((XFi_copyFrom_15_4 s).2.1 21) 0 0 16)) 22 (va_cpy ((XFi_copyFrom_15_4 s).2.1 11) ((XFi_copyFrom_15_4 s).2.1 22) 0 0 16)) 23 (va_cpy ((XFi_copyFrom_15_4 s).2.1 12) ((XFi_copyFrom_15_4 s).2.1 23) 0 0 16)) 24 (va_cpy ((XFi_copyFrom_15_4 s).2.1 13) ((XFi_copyFrom_15_4 s).2.1 24) 0 0 180)) 14 5 ((XFi_copyFrom_15_4 s).2.1 3 5)) 14 6 ((XFi_copyFrom_15_4 s).2.1 3 6))
theorem e_XSt_copyFrom_14_3 (d : Nat)  (s : ax_S) : ax_ev true (d + 2) 71 [.ref 14, .ref 3] s (none, (XSt_copyFrom_14_3 s)) := by
  refine ⟨Nat.le_of_ble_eq_true rfl, ?_⟩
  generalize h : XSt_copyFrom_14_3 s = r
  show ax_go true none (ax_ev true (d + 1)) ax_m71 0 [some (.ref 14), some (.ref 3)] [] s _
  unfold XSt_copyFrom_14_3 at h
  refine ax_cut (pc' := 31) (la := [some (.ref 14), some (.ref 3)]) [some (.ref 14), some (.ref 3)] (st' := [.int (0 : Int32), .ref 11]) (σ' := (ax_sA (XFi_copyFrom_15_4 s) 21 (va_cpy ((XFi_copyFrom_15_4 s).2.1 10) ((XFi_copyFrom_15_4 s).2.1 21) 0 0 16))) 16 (And.intro rfl (And.intro rfl (trivial))) (fun _ hh => (Exists.intro (none, (XFi_copyFrom_15_4 s)) (And.intro (e_XFi_copyFrom_15_4 d  s) (And.intro (show ¬ (0 : Int32) < 0 by decide) (And.intro (show ¬ (0 : Int32) < 0 by decide) (And.intro (show ¬ (16 : Int32) < 0 by decide) (And.intro (by decide) (And.intro (by decide) hh)))))))) ?_
  refine ax_cut (pc' := 61) (la := [some (.ref 14), some (.ref 3)]) [some (.ref 14), some (.ref 3)] (st' := [.int (0 : Int32), .ref 13]) (σ' := (ax_sA (ax_sA (ax_sA (XFi_copyFrom_15_4 s) 21 (va_cpy ((XFi_copyFrom_15_4 s).2.1 10) ((XFi_copyFrom_15_4 s).2.1 21) 0 0 16)) 22 (va_cpy ((XFi_copyFrom_15_4 s).2.1 11) ((XFi_copyFrom_15_4 s).2.1 22) 0 0 16)) 23 (va_cpy ((XFi_copyFrom_15_4 s).2.1 12) ((XFi_copyFrom_15_4 s).2.1 23) 0 0 16))) 16 (And.intro rfl (And.intro rfl (trivial))) (fun _ hh => (And.intro (show ¬ (0 : Int32) < 0 by decide) (And.intro (show ¬ (0 : Int32) < 0 by decide) (And.intro (show ¬ (16 : Int32) < 0 by decide) (And.intro (by decide) (And.intro (by decide) (And.intro (show ¬ (0 : Int32) < 0 by decide) (And.intro (show ¬ (0 : Int32) < 0 by decide) (And.intro (show ¬ (16 : Int32) < 0 by decide) (And.intro (by decide) (And.intro (by decide) hh))))))))))) ?_
  have h := h
  subst r
  exact ax_end 14 (And.intro (show ¬ (0 : Int32) < 0 by decide) (And.intro (show ¬ (0 : Int32) < 0 by decide) (And.intro (show ¬ (180 : Int32) < 0 by decide) (And.intro (by decide) (And.intro (by decide) rfl)))))
def XSt_day_3  (s : ax_S) : Int32 :=
  (s.2.1 3 5)
theorem e_XSt_day_3 (d : Nat)  (s : ax_S) : ax_ev true (d + 1) 169 [.ref 3] s (some (.int (XSt_day_3 s)), s) := by
  refine ⟨Nat.le_of_ble_eq_true rfl, ?_⟩
  generalize h : XSt_day_3 s = r
  show ax_go true none (ax_ev true (d + 0)) ax_m169 0 [some (.ref 3)] [] s _
  unfold XSt_day_3 at h
  have h := h
  subst r
  exact ax_end 3 rfl
def X_keep  (s : ax_S) : Int32 × ax_S :=
  ((XSt_day_3 (ax_sI (XSt_copyFrom_14_3 s) 0 13 (1 : Int32))), (ax_sI (XSt_copyFrom_14_3 s) 0 13 (1 : Int32)))
theorem e_X_keep (d : Nat)  (s : ax_S) : ax_ev true (d + 3) 168 [.ref 0] s (some (.int (X_keep s).1), (X_keep s).2) := by
  refine ⟨Nat.le_of_ble_eq_true rfl, ?_⟩
  generalize h : X_keep s = r
  show ax_go true none (ax_ev true (d + 2)) ax_m168 0 [some (.ref 0)] [] s _
  unfold X_keep at h
  have h := h
  subst r
  exact ax_end 12 (Exists.intro (none, (XSt_copyFrom_14_3 s)) (And.intro (e_XSt_copyFrom_14_3 d  s) (And.intro (Or.inr rfl) (Exists.intro (some (.int (XSt_day_3 (ax_sI (XSt_copyFrom_14_3 s) 0 13 (1 : Int32)))), (ax_sI (XSt_copyFrom_14_3 s) 0 13 (1 : Int32))) (And.intro (e_XSt_day_3 (d + 1)  (ax_sI (XSt_copyFrom_14_3 s) 0 13 (1 : Int32))) rfl)))))
def M_copies_64_66_l2 : Nat → Int32 → ax_S → Option (ax_S)
  | 0, _, _ => none
  | n + 1, x2, s =>
    if (291 : Int32) ≤ x2 then (
      some s) else
    if (x2 < 0 ∨ 291 ≤ (x2).toNatClampNeg) then none else
    if (x2 < 0 ∨ 291 ≤ (x2).toNatClampNeg) then none else
    M_copies_64_66_l2 n (x2 + (1)) (ax_sI s 66 (x2).toNatClampNeg (s.2.1 64 (x2).toNatClampNeg))
def M_copies_64_66  (s : ax_S) : Option (ax_S) :=
  match M_copies_64_66_l2 70000 (0 : Int32) s with
  | none => none
  | some s1 =>
    some s1
theorem w_M_copies_64_66_l2 (d : Nat) {o : ax_O} : ∀ (n : Nat) (x2 : Int32) (s : ax_S) (r : ax_S) (h : M_copies_64_66_l2 n x2 s = some r) (hk0 : ∀ (t0 : ax_S), r = t0 → ax_go true none (ax_ev true (d + 0)) ax_m206 21 [none, none, none] [] t0 o), ax_go true none (ax_ev true (d + 0)) ax_m206 2 [some (.ref 64), some (.ref 66), some (.int x2)] [] s o := by
  intro n
  induction n with
  | zero => intro x2 s r h hk0; cases h
  | succ n ih =>
    intro x2 s r h hk0
    rw [M_copies_64_66_l2] at h
    by_cases c1 : (291 : Int32) ≤ x2
    · rw [if_pos c1] at h
      have h := Option.some.inj h
      subst r
      exact ax_cut (pc' := 21) (la := [some (.ref 64), some (.ref 66), some (.int x2)]) [none, none, none] (st' := []) (σ' := s) 3 (trivial) (fun _ hh => (And.intro (fun _ => hh) (fun q => absurd c1 q))) (hk0 _ rfl)
    · rw [if_neg c1] at h
      by_cases c2 : (x2 < 0 ∨ 291 ≤ (x2).toNatClampNeg)
      · rw [if_pos c2] at h; cases h
      · rw [if_neg c2] at h
        by_cases c3 : (x2 < 0 ∨ 291 ≤ (x2).toNatClampNeg)
        · rw [if_pos c3] at h; cases h
        · rw [if_neg c3] at h
          exact ax_cut (pc' := 2) (la := [some (.ref 64), some (.ref 66), some (.int (x2 + (1)))]) [some (.ref 64), some (.ref 66), some (.int (x2 + (1)))] (st' := []) (σ' := (ax_sI s 66 (x2).toNatClampNeg (s.2.1 64 (x2).toNatClampNeg))) 11 (And.intro rfl (And.intro rfl (And.intro rfl (trivial)))) (fun _ hh => (And.intro (fun q => absurd q c1) (fun _ => (And.intro c2 (And.intro c3 hh))))) (ih (x2 + (1)) (ax_sI s 66 (x2).toNatClampNeg (s.2.1 64 (x2).toNatClampNeg)) _ h hk0)
theorem e_M_copies_64_66 (d : Nat)  {s : ax_S} {r : ax_S} (h : M_copies_64_66 s = some r) : ax_ev true (d + 1) 206 [.ref 64, .ref 66] s (none, r) := by
  refine ⟨Nat.le_of_ble_eq_true rfl, ?_⟩
  show ax_go true none (ax_ev true (d + 0)) ax_m206 0 [some (.ref 64), some (.ref 66), none] [] s _
  unfold M_copies_64_66 at h
  cases hz1 : M_copies_64_66_l2 70000 (0 : Int32) s with
  | none => rw [hz1] at h; cases h
  | some z1 =>
  rw [hz1] at h
  refine ax_cut (pc' := 2) (la := [some (.ref 64), some (.ref 66), some (.int (0 : Int32))]) [some (.ref 64), some (.ref 66), some (.int (0 : Int32))] (st' := []) (σ' := s) 2 (And.intro rfl (And.intro rfl (And.intro rfl (trivial)))) (fun _ hh => hh) (w_M_copies_64_66_l2 d 70000 (0 : Int32) s _ hz1 ?_)
  · intro s1 hq
    subst z1
    dsimp only at h
    have h := Option.some.inj h
    subst r
    exact ax_end 1 rfl
def M_keep  (s : ax_S) : Option (Int32 × ax_S) :=
  match M_copies_64_66 (ax_sI s 63 39 (1 : Int32)) with
  | none => none
  | some s1 =>
    some ((s1.2.1 64 289), s1)
theorem e_M_keep (d : Nat)  {s : ax_S} {r : Int32 × ax_S} (h : M_keep s = some r) : ax_ev true (d + 2) 282 [.ref 63] s (some (.int r.1), r.2) := by
  refine ⟨Nat.le_of_ble_eq_true rfl, ?_⟩
  show ax_go true none (ax_ev true (d + 1)) ax_m282 0 [some (.ref 63)] [] s _
  unfold M_keep at h
  cases hz1 : M_copies_64_66 (ax_sI s 63 39 (1 : Int32)) with
  | none => rw [hz1] at h; cases h
  | some s1 =>
  rw [hz1] at h
  dsimp only at h
  have h := Option.some.inj h
  subst r
  exact ax_end 13 (And.intro (Or.inr rfl) (Exists.intro (none, s1) (And.intro (e_M_copies_64_66 d hz1) (And.intro (show ¬ ((289 : Int32) < 0 ∨ 291 ≤ ((289 : Int32)).toNatClampNeg) by decide) rfl))))
def XFi_copyFrom_4_15  (s : ax_S) : ax_S :=
  (ax_sA (ax_sA (ax_sA (ax_sA (ax_sA s 5 (va_cpy (s.2.1 16) (s.2.1 5) 0 0 12)) 6 (va_cpy (s.2.1 17) (s.2.1 6) 0 0 12)) 7 (va_cpy (s.2.1 18) (s.2.1 7) 0 0 12)) 8 (va_cpy (s.2.1 19) (s.2.1 8) 0 0 12)) 9 (va_cpy (s.2.1 20) (s.2.1 9) 0 0 12))
theorem e_XFi_copyFrom_4_15 (d : Nat)  (s : ax_S) : ax_ev true (d + 1) 69 [.ref 4, .ref 15] s (none, (XFi_copyFrom_4_15 s)) := by
  refine ⟨Nat.le_of_ble_eq_true rfl, ?_⟩
  generalize h : XFi_copyFrom_4_15 s = r
  show ax_go true none (ax_ev true (d + 0)) ax_m69 0 [some (.ref 4), some (.ref 15)] [] s _
  unfold XFi_copyFrom_4_15 at h
  refine ax_cut (pc' := 30) (la := [some (.ref 4), some (.ref 15)]) [some (.ref 4), some (.ref 15)] (st' := []) (σ' := (ax_sA (ax_sA s 5 (va_cpy (s.2.1 16) (s.2.1 5) 0 0 12)) 6 (va_cpy (s.2.1 17) (s.2.1 6) 0 0 12))) 16 (And.intro rfl (And.intro rfl (trivial))) (fun _ hh => (And.intro (show ¬ (0 : Int32) < 0 by decide) (And.intro (show ¬ (0 : Int32) < 0 by decide) (And.intro (show ¬ (12 : Int32) < 0 by decide) (And.intro (by decide) (And.intro (by decide) (And.intro (show ¬ (0 : Int32) < 0 by decide) (And.intro (show ¬ (0 : Int32) < 0 by decide) (And.intro (show ¬ (12 : Int32) < 0 by decide) (And.intro (by decide) (And.intro (by decide) hh))))))))))) ?_
  refine ax_cut (pc' := 60) (la := [some (.ref 4), some (.ref 15)]) [some (.ref 4), some (.ref 15)] (st' := []) (σ' := (ax_sA (ax_sA (ax_sA (ax_sA s 5 (va_cpy (s.2.1 16) (s.2.1 5) 0 0 12)) 6 (va_cpy (s.2.1 17) (s.2.1 6) 0 0 12)) 7 (va_cpy (s.2.1 18) (s.2.1 7) 0 0 12)) 8 (va_cpy (s.2.1 19) (s.2.1 8) 0 0 12))) 16 (And.intro rfl (And.intro rfl (trivial))) (fun _ hh => (And.intro (show ¬ (0 : Int32) < 0 by decide) (And.intro (show ¬ (0 : Int32) < 0 by decide) (And.intro (show ¬ (12 : Int32) < 0 by decide) (And.intro (by decide) (And.intro (by decide) (And.intro (show ¬ (0 : Int32) < 0 by decide) (And.intro (show ¬ (0 : Int32) < 0 by decide) (And.intro (show ¬ (12 : Int32) < 0 by decide) (And.intro (by decide) (And.intro (by decide) hh))))))))))) ?_
  have h := h
  subst r
  exact ax_end 9 (And.intro (show ¬ (0 : Int32) < 0 by decide) (And.intro (show ¬ (0 : Int32) < 0 by decide) (And.intro (show ¬ (12 : Int32) < 0 by decide) (And.intro (by decide) (And.intro (by decide) rfl)))))
def XSt_copyFrom_3_14  (s : ax_S) : ax_S :=
  (ax_sI (ax_sI (ax_sA (ax_sA (ax_sA (ax_sA (XFi_copyFrom_4_15 s) 10 (va_cpy ((XFi_copyFrom_4_15 s).2.1 21) ((XFi_copyFrom_4_15 s).2.1 10) 0 0 16)) 11 (va_cpy ((XFi_copyFrom_4_15 s).2.1 22) ((XFi_copyFrom_4_15 s).2.1 11) 0 0 16)) 12 (va_cpy ((XFi_copyFrom_4_15 s).2.1 23) ((XFi_copyFrom_4_15 s).2.1 12) 0 0 16)) 13 (va_cpy ((XFi_copyFrom_4_15 s).2.1 24) ((XFi_copyFrom_4_15 s).2.1 13) 0 0 180)) 3 5 ((XFi_copyFrom_4_15 s).2.1 14 5)) 3 6 ((XFi_copyFrom_4_15 s).2.1 14 6))
theorem e_XSt_copyFrom_3_14 (d : Nat)  (s : ax_S) : ax_ev true (d + 2) 71 [.ref 3, .ref 14] s (none, (XSt_copyFrom_3_14 s)) := by
  refine ⟨Nat.le_of_ble_eq_true rfl, ?_⟩
  generalize h : XSt_copyFrom_3_14 s = r
  show ax_go true none (ax_ev true (d + 1)) ax_m71 0 [some (.ref 3), some (.ref 14)] [] s _
  unfold XSt_copyFrom_3_14 at h
  refine ax_cut (pc' := 31) (la := [some (.ref 3), some (.ref 14)]) [some (.ref 3), some (.ref 14)] (st' := [.int (0 : Int32), .ref 22]) (σ' := (ax_sA (XFi_copyFrom_4_15 s) 10 (va_cpy ((XFi_copyFrom_4_15 s).2.1 21) ((XFi_copyFrom_4_15 s).2.1 10) 0 0 16))) 16 (And.intro rfl (And.intro rfl (trivial))) (fun _ hh => (Exists.intro (none, (XFi_copyFrom_4_15 s)) (And.intro (e_XFi_copyFrom_4_15 d  s) (And.intro (show ¬ (0 : Int32) < 0 by decide) (And.intro (show ¬ (0 : Int32) < 0 by decide) (And.intro (show ¬ (16 : Int32) < 0 by decide) (And.intro (by decide) (And.intro (by decide) hh)))))))) ?_
  refine ax_cut (pc' := 61) (la := [some (.ref 3), some (.ref 14)]) [some (.ref 3), some (.ref 14)] (st' := [.int (0 : Int32), .ref 24]) (σ' := (ax_sA (ax_sA (ax_sA (XFi_copyFrom_4_15 s) 10 (va_cpy ((XFi_copyFrom_4_15 s).2.1 21) ((XFi_copyFrom_4_15 s).2.1 10) 0 0 16)) 11 (va_cpy ((XFi_copyFrom_4_15 s).2.1 22) ((XFi_copyFrom_4_15 s).2.1 11) 0 0 16)) 12 (va_cpy ((XFi_copyFrom_4_15 s).2.1 23) ((XFi_copyFrom_4_15 s).2.1 12) 0 0 16))) 16 (And.intro rfl (And.intro rfl (trivial))) (fun _ hh => (And.intro (show ¬ (0 : Int32) < 0 by decide) (And.intro (show ¬ (0 : Int32) < 0 by decide) (And.intro (show ¬ (16 : Int32) < 0 by decide) (And.intro (by decide) (And.intro (by decide) (And.intro (show ¬ (0 : Int32) < 0 by decide) (And.intro (show ¬ (0 : Int32) < 0 by decide) (And.intro (show ¬ (16 : Int32) < 0 by decide) (And.intro (by decide) (And.intro (by decide) hh))))))))))) ?_
  have h := h
  subst r
  exact ax_end 14 (And.intro (show ¬ (0 : Int32) < 0 by decide) (And.intro (show ¬ (0 : Int32) < 0 by decide) (And.intro (show ¬ (180 : Int32) < 0 by decide) (And.intro (by decide) (And.intro (by decide) rfl)))))
def X_undo  (s : ax_S) : Option (Int32 × ax_S) :=
  if (s.2.1 0 13) = 0 then (
    if ¬ ((s.2.1 0 13) = 0 ∨ (s.2.1 0 13) = 1) then none else
    some ((s.2.1 0 13), s)) else
  if ¬ (((XSt_copyFrom_3_14 s).2.1 0 13) = 0 ∨ ((XSt_copyFrom_3_14 s).2.1 0 13) = 1) then none else
  some (((XSt_copyFrom_3_14 s).2.1 0 13), (XSt_copyFrom_3_14 s))
theorem e_X_undo (d : Nat)  {s : ax_S} {r : Int32 × ax_S} (h : X_undo s = some r) : ax_ev true (d + 3) 170 [.ref 0] s (some (.int r.1), r.2) := by
  refine ⟨Nat.le_of_ble_eq_true rfl, ?_⟩
  show ax_go true none (ax_ev true (d + 2)) ax_m170 0 [some (.ref 0)] [] s _
  unfold X_undo at h
  by_cases c1 : (s.2.1 0 13) = 0
  · rw [if_pos c1] at h
    by_cases c2 : ¬ ((s.2.1 0 13) = 0 ∨ (s.2.1 0 13) = 1)
    · rw [if_pos c2] at h; cases h
    · rw [if_neg c2] at h
      have h := Option.some.inj h
      subst r
      exact ax_end 6 (And.intro (fun _ => (And.intro (Decidable.not_not.mp c2) rfl)) (fun q => absurd c1 q))
  · rw [if_neg c1] at h
    by_cases c3 : ¬ (((XSt_copyFrom_3_14 s).2.1 0 13) = 0 ∨ ((XSt_copyFrom_3_14 s).2.1 0 13) = 1)
    · rw [if_pos c3] at h; cases h
    · rw [if_neg c3] at h
      have h := Option.some.inj h
      subst r
      exact ax_end 11 (And.intro (fun q => absurd q c1) (fun _ => (Exists.intro (none, (XSt_copyFrom_3_14 s)) (And.intro (e_XSt_copyFrom_3_14 d  s) (And.intro (Decidable.not_not.mp c3) rfl)))))
def M_copies_66_64_l2 : Nat → Int32 → ax_S → Option (ax_S)
  | 0, _, _ => none
  | n + 1, x2, s =>
    if (291 : Int32) ≤ x2 then (
      some s) else
    if (x2 < 0 ∨ 291 ≤ (x2).toNatClampNeg) then none else
    if (x2 < 0 ∨ 291 ≤ (x2).toNatClampNeg) then none else
    M_copies_66_64_l2 n (x2 + (1)) (ax_sI s 64 (x2).toNatClampNeg (s.2.1 66 (x2).toNatClampNeg))
def M_copies_66_64  (s : ax_S) : Option (ax_S) :=
  match M_copies_66_64_l2 70000 (0 : Int32) s with
  | none => none
  | some s1 =>
    some s1
theorem w_M_copies_66_64_l2 (d : Nat) {o : ax_O} : ∀ (n : Nat) (x2 : Int32) (s : ax_S) (r : ax_S) (h : M_copies_66_64_l2 n x2 s = some r) (hk0 : ∀ (t0 : ax_S), r = t0 → ax_go true none (ax_ev true (d + 0)) ax_m206 21 [none, none, none] [] t0 o), ax_go true none (ax_ev true (d + 0)) ax_m206 2 [some (.ref 66), some (.ref 64), some (.int x2)] [] s o := by
  intro n
  induction n with
  | zero => intro x2 s r h hk0; cases h
  | succ n ih =>
    intro x2 s r h hk0
    rw [M_copies_66_64_l2] at h
    by_cases c1 : (291 : Int32) ≤ x2
    · rw [if_pos c1] at h
      have h := Option.some.inj h
      subst r
      exact ax_cut (pc' := 21) (la := [some (.ref 66), some (.ref 64), some (.int x2)]) [none, none, none] (st' := []) (σ' := s) 3 (trivial) (fun _ hh => (And.intro (fun _ => hh) (fun q => absurd c1 q))) (hk0 _ rfl)
    · rw [if_neg c1] at h
      by_cases c2 : (x2 < 0 ∨ 291 ≤ (x2).toNatClampNeg)
      · rw [if_pos c2] at h; cases h
      · rw [if_neg c2] at h
        by_cases c3 : (x2 < 0 ∨ 291 ≤ (x2).toNatClampNeg)
        · rw [if_pos c3] at h; cases h
        · rw [if_neg c3] at h
          exact ax_cut (pc' := 2) (la := [some (.ref 66), some (.ref 64), some (.int (x2 + (1)))]) [some (.ref 66), some (.ref 64), some (.int (x2 + (1)))] (st' := []) (σ' := (ax_sI s 64 (x2).toNatClampNeg (s.2.1 66 (x2).toNatClampNeg))) 11 (And.intro rfl (And.intro rfl (And.intro rfl (trivial)))) (fun _ hh => (And.intro (fun q => absurd q c1) (fun _ => (And.intro c2 (And.intro c3 hh))))) (ih (x2 + (1)) (ax_sI s 64 (x2).toNatClampNeg (s.2.1 66 (x2).toNatClampNeg)) _ h hk0)
theorem e_M_copies_66_64 (d : Nat)  {s : ax_S} {r : ax_S} (h : M_copies_66_64 s = some r) : ax_ev true (d + 1) 206 [.ref 66, .ref 64] s (none, r) := by
  refine ⟨Nat.le_of_ble_eq_true rfl, ?_⟩
  show ax_go true none (ax_ev true (d + 0)) ax_m206 0 [some (.ref 66), some (.ref 64), none] [] s _
  unfold M_copies_66_64 at h
  cases hz1 : M_copies_66_64_l2 70000 (0 : Int32) s with
  | none => rw [hz1] at h; cases h
  | some z1 =>
  rw [hz1] at h
  refine ax_cut (pc' := 2) (la := [some (.ref 66), some (.ref 64), some (.int (0 : Int32))]) [some (.ref 66), some (.ref 64), some (.int (0 : Int32))] (st' := []) (σ' := s) 2 (And.intro rfl (And.intro rfl (And.intro rfl (trivial)))) (fun _ hh => hh) (w_M_copies_66_64_l2 d 70000 (0 : Int32) s _ hz1 ?_)
  · intro s1 hq
    subst z1
    dsimp only at h
    have h := Option.some.inj h
    subst r
    exact ax_end 1 rfl
def M_undo  (s : ax_S) : Option (Int32 × ax_S) :=
  if (s.2.1 63 39) = 0 then (
    some ((0 : Int32), s)) else
  match M_copies_66_64 s with
  | none => none
  | some s1 =>
    some ((1 : Int32), s1)
theorem e_M_undo (d : Nat)  {s : ax_S} {r : Int32 × ax_S} (h : M_undo s = some r) : ax_ev true (d + 2) 283 [.ref 63] s (some (.int r.1), r.2) := by
  refine ⟨Nat.le_of_ble_eq_true rfl, ?_⟩
  show ax_go true none (ax_ev true (d + 1)) ax_m283 0 [some (.ref 63)] [] s _
  unfold M_undo at h
  by_cases c1 : (s.2.1 63 39) = 0
  · rw [if_pos c1] at h
    have h := Option.some.inj h
    subst r
    exact ax_end 5 (And.intro (fun q => absurd c1 q) (fun _ => (And.intro (Or.inl rfl) rfl)))
  · rw [if_neg c1] at h
    cases hz2 : M_copies_66_64 s with
    | none => rw [hz2] at h; cases h
    | some s1 =>
    rw [hz2] at h
    dsimp only at h
    have h := Option.some.inj h
    subst r
    exact ax_end 10 (And.intro (fun _ => (Exists.intro (none, s1) (And.intro (e_M_copies_66_64 d hz2) (And.intro (Or.inr rfl) rfl)))) (fun q => absurd c1 q))
def X_check_l28 : Nat → Int32 → Int32 → Int32 → ax_S → Option (Int32)
  | 0, _, _, _, _ => none
  | n + 1, x1, x2, x3, s =>
    if x1 ≤ x3 then (
      some x2) else
    if x2 = (-1 : Int32) then (
      match XTa_byteAt x3 s with
      | none => none
      | some v1 =>
        match XSt_painOf_3 x3 s with
        | none => none
        | some v2 =>
          if v1 = v2 then (
            X_check_l28 n x1 x2 (x3 + (1)) s) else
          X_check_l28 n x1 x3 (x3 + (1)) s) else
    some x2
def X_check (x1 : Int32)  (s : ax_S) : Option (Int32 × ax_S) :=
  if (X_isWithin x1 (0 : Int32) (16 : Int32) s) = 0 then (
    some ((-2 : Int32), s)) else
  if (XTa_holds x1 s) = 0 then (
    some ((-2 : Int32), s)) else
  match X_check_l28 70000 x1 (-1 : Int32) (0 : Int32) s with
  | none => none
  | some v3 =>
    some (v3, (XTa_clear s))
theorem w_X_check_l28 (d : Nat) {o : ax_O} : ∀ (n : Nat) (x1 : Int32) (x2 : Int32) (x3 : Int32) (s : ax_S) (r : Int32) (h : X_check_l28 n x1 x2 x3 s = some r) (hk0 : ∀ (t0 : Int32), r = t0 → ax_go true none (ax_ev true (d + 3)) ax_m171 65 [some (.ref 0), none, some (.int t0), none] [] s o), ax_go true none (ax_ev true (d + 3)) ax_m171 28 [some (.ref 0), some (.int x1), some (.int x2), some (.int x3)] [] s o := by
  intro n
  induction n with
  | zero => intro x1 x2 x3 s r h hk0; cases h
  | succ n ih =>
    intro x1 x2 x3 s r h hk0
    rw [X_check_l28] at h
    by_cases c1 : x1 ≤ x3
    · rw [if_pos c1] at h
      have h := Option.some.inj h
      subst r
      exact ax_cut (pc' := 65) (la := [some (.ref 0), some (.int x1), some (.int x2), some (.int x3)]) [some (.ref 0), none, some (.int x2), none] (st' := []) (σ' := s) 3 (And.intro rfl (And.intro rfl (trivial))) (fun _ hh => (And.intro (fun _ => hh) (fun q => absurd c1 q))) (hk0 _ rfl)
    · rw [if_neg c1] at h
      by_cases c2 : x2 = (-1 : Int32)
      · rw [if_pos c2] at h
        cases hz3 : XTa_byteAt x3 s with
        | none => rw [hz3] at h; cases h
        | some v1 =>
        rw [hz3] at h
        dsimp only at h
        cases hz4 : XSt_painOf_3 x3 s with
        | none => rw [hz4] at h; cases h
        | some v2 =>
        rw [hz4] at h
        dsimp only at h
        by_cases c5 : v1 = v2
        · rw [if_pos c5] at h
          refine ax_cut (pc' := 62) (la := [some (.ref 0), some (.int x1), some (.int x2), some (.int (x3 + (1)))]) [some (.ref 0), some (.int x1), some (.int x2), some (.int (x3 + (1)))] (st' := []) (σ' := s) 16 (And.intro rfl (And.intro rfl (And.intro rfl (And.intro rfl (trivial))))) (fun _ hh => (And.intro (fun q => absurd q c1) (fun _ => (And.intro (fun q => absurd c2 q) (fun _ => (Exists.intro (some (.int v1), s) (And.intro (e_XTa_byteAt (d + 2) hz3) (Exists.intro (some (.int v2), s) (And.intro (e_XSt_painOf_3 d hz4) (And.intro (fun _ => hh) (fun q => absurd c5 q))))))))))) ?_
          exact ax_cut (pc' := 28) (la := [some (.ref 0), some (.int x1), some (.int x2), some (.int (x3 + (1)))]) [some (.ref 0), some (.int x1), some (.int x2), some (.int (x3 + (1)))] (st' := []) (σ' := s) 1 (And.intro rfl (And.intro rfl (And.intro rfl (And.intro rfl (trivial))))) (fun _ hh => hh) (ih x1 x2 (x3 + (1)) s _ h hk0)
        · rw [if_neg c5] at h
          refine ax_cut (pc' := 58) (la := [some (.ref 0), some (.int x1), some (.int x2), some (.int x3)]) [some (.ref 0), some (.int x1), none, some (.int x3)] (st' := [.int x3]) (σ' := s) 16 (And.intro rfl (And.intro rfl (And.intro rfl (trivial)))) (fun _ hh => (And.intro (fun q => absurd q c1) (fun _ => (And.intro (fun q => absurd c2 q) (fun _ => (Exists.intro (some (.int v1), s) (And.intro (e_XTa_byteAt (d + 2) hz3) (Exists.intro (some (.int v2), s) (And.intro (e_XSt_painOf_3 d hz4) (And.intro (fun q => absurd q c5) (fun _ => hh))))))))))) ?_
          exact ax_cut (pc' := 28) (la := [some (.ref 0), some (.int x1), some (.int x3), some (.int (x3 + (1)))]) [some (.ref 0), some (.int x1), some (.int x3), some (.int (x3 + (1)))] (st' := []) (σ' := s) 3 (And.intro rfl (And.intro rfl (And.intro rfl (And.intro rfl (trivial))))) (fun _ hh => hh) (ih x1 x3 (x3 + (1)) s _ h hk0)
      · rw [if_neg c2] at h
        have h := Option.some.inj h
        subst r
        exact ax_cut (pc' := 65) (la := [some (.ref 0), some (.int x1), some (.int x2), some (.int x3)]) [some (.ref 0), none, some (.int x2), none] (st' := []) (σ' := s) 6 (And.intro rfl (And.intro rfl (trivial))) (fun _ hh => (And.intro (fun q => absurd q c1) (fun _ => (And.intro (fun _ => hh) (fun q => absurd c2 q))))) (hk0 _ rfl)
theorem e_X_check (d : Nat) {x1 : Int32} {s : ax_S} {r : Int32 × ax_S} (h : X_check x1 s = some r) : ax_ev true (d + 4) 171 [.ref 0, .int x1] s (some (.int r.1), r.2) := by
  refine ⟨Nat.le_of_ble_eq_true rfl, ?_⟩
  show ax_go true none (ax_ev true (d + 3)) ax_m171 0 [some (.ref 0), some (.int x1), none, none] [] s _
  unfold X_check at h
  by_cases c1 : (X_isWithin x1 (0 : Int32) (16 : Int32) s) = 0
  · rw [if_pos c1] at h
    have h := Option.some.inj h
    subst r
    exact ax_end 7 (Exists.intro (some (.int (X_isWithin x1 (0 : Int32) (16 : Int32) s)), s) (And.intro (e_X_isWithin (d + 2) x1 (0 : Int32) (16 : Int32) s) (And.intro (fun _ => rfl) (fun q => absurd c1 q))))
  · rw [if_neg c1] at h
    by_cases c2 : (XTa_holds x1 s) = 0
    · rw [if_pos c2] at h
      have h := Option.some.inj h
      subst r
      exact ax_end 12 (Exists.intro (some (.int (X_isWithin x1 (0 : Int32) (16 : Int32) s)), s) (And.intro (e_X_isWithin (d + 2) x1 (0 : Int32) (16 : Int32) s) (And.intro (fun q => absurd q c1) (fun _ => (Exists.intro (some (.int (XTa_holds x1 s)), s) (And.intro (e_XTa_holds (d + 2) x1 s) (And.intro (fun q => absurd c2 q) (fun _ => rfl))))))))
    · rw [if_neg c2] at h
      cases hz3 : X_check_l28 70000 x1 (-1 : Int32) (0 : Int32) s with
      | none => rw [hz3] at h; cases h
      | some z3 =>
      rw [hz3] at h
      refine ax_cut (pc' := 28) (la := [some (.ref 0), some (.int x1), some (.int (-1 : Int32)), some (.int (0 : Int32))]) [some (.ref 0), some (.int x1), some (.int (-1 : Int32)), some (.int (0 : Int32))] (st' := []) (σ' := s) 14 (And.intro rfl (And.intro rfl (And.intro rfl (And.intro rfl (trivial))))) (fun _ hh => (Exists.intro (some (.int (X_isWithin x1 (0 : Int32) (16 : Int32) s)), s) (And.intro (e_X_isWithin (d + 2) x1 (0 : Int32) (16 : Int32) s) (And.intro (fun q => absurd q c1) (fun _ => (Exists.intro (some (.int (XTa_holds x1 s)), s) (And.intro (e_XTa_holds (d + 2) x1 s) (And.intro (fun _ => hh) (fun q => absurd c2 q))))))))) (w_X_check_l28 d 70000 x1 (-1 : Int32) (0 : Int32) s _ hz3 ?_)
      · intro v3 hq
        subst z3
        dsimp only at h
        have h := Option.some.inj h
        subst r
        exact ax_end 5 (Exists.intro (none, (XTa_clear s)) (And.intro (e_XTa_clear (d + 2)  s) rfl))
def M_check_l28 : Nat → Int32 → Int32 → ax_S → Option (Int32 × ax_S)
  | 0, _, _, _ => none
  | n + 1, x1, x2, s =>
    if x1 ≤ x2 then (
      some ((-1 : Int32), s)) else
    match M_octet x2 s with
    | none => none
    | some v1 =>
      if (((60 : Int32) + x2) < 0 ∨ 291 ≤ (((60 : Int32) + x2)).toNatClampNeg) then none else
      if v1 = (s.2.1 64 (((60 : Int32) + x2)).toNatClampNeg) then (
        M_check_l28 n x1 (x2 + (1)) s) else
      some (x2, s)
def M_check (x1 : Int32)  (s : ax_S) : Option (Int32 × ax_S) :=
  if (M_in x1 (0 : Int32) (16 : Int32) s) = 0 then (
    some ((-2 : Int32), s)) else
  if x1 ≤ (s.2.1 63 5) then (
    match M_check_l28 70000 x1 (0 : Int32) (ax_sI s 63 5 (0 : Int32)) with
    | none => none
    | some r => some r) else
  some ((-2 : Int32), s)
theorem w_M_check_l28 (d : Nat) {o : ax_O} : ∀ (n : Nat) (x1 : Int32) (x2 : Int32) (s : ax_S) (r : Int32 × ax_S) (h : M_check_l28 n x1 x2 s = some r) (hkr : ∀ q, r = q → o = (some (.int q.1), q.2)), ax_go true none (ax_ev true (d + 1)) ax_m284 28 [some (.ref 63), some (.int x1), some (.int x2)] [] s o := by
  intro n
  induction n with
  | zero => intro x1 x2 s r h hkr; cases h
  | succ n ih =>
    intro x1 x2 s r h hkr
    rw [M_check_l28] at h
    by_cases c1 : x1 ≤ x2
    · rw [if_pos c1] at h
      have h := Option.some.inj h
      subst r
      exact ax_end 5 (And.intro (fun _ => (hkr _ rfl)) (fun q => absurd c1 q))
    · rw [if_neg c1] at h
      cases hz2 : M_octet x2 s with
      | none => rw [hz2] at h; cases h
      | some v1 =>
      rw [hz2] at h
      dsimp only at h
      by_cases c3 : (((60 : Int32) + x2) < 0 ∨ 291 ≤ (((60 : Int32) + x2)).toNatClampNeg)
      · rw [if_pos c3] at h; cases h
      · rw [if_neg c3] at h
        by_cases c4 : v1 = (s.2.1 64 (((60 : Int32) + x2)).toNatClampNeg)
        · rw [if_pos c4] at h
          exact ax_cut (pc' := 28) (la := [some (.ref 63), some (.int x1), some (.int (x2 + (1)))]) [some (.ref 63), some (.int x1), some (.int (x2 + (1)))] (st' := []) (σ' := s) 15 (And.intro rfl (And.intro rfl (And.intro rfl (trivial)))) (fun _ hh => (And.intro (fun q => absurd q c1) (fun _ => (Exists.intro (some (.int v1), s) (And.intro (e_M_octet d hz2) (And.intro c3 (And.intro (fun _ => hh) (fun q => absurd c4 q)))))))) (ih x1 (x2 + (1)) s _ h hkr)
        · rw [if_neg c4] at h
          have h := Option.some.inj h
          subst r
          exact ax_end 15 (And.intro (fun q => absurd q c1) (fun _ => (Exists.intro (some (.int v1), s) (And.intro (e_M_octet d hz2) (And.intro c3 (And.intro (fun q => absurd q c4) (fun _ => (hkr _ rfl))))))))
theorem e_M_check (d : Nat) {x1 : Int32} {s : ax_S} {r : Int32 × ax_S} (h : M_check x1 s = some r) : ax_ev true (d + 2) 284 [.ref 63, .int x1] s (some (.int r.1), r.2) := by
  refine ⟨Nat.le_of_ble_eq_true rfl, ?_⟩
  show ax_go true none (ax_ev true (d + 1)) ax_m284 0 [some (.ref 63), some (.int x1), none] [] s _
  unfold M_check at h
  by_cases c1 : (M_in x1 (0 : Int32) (16 : Int32) s) = 0
  · rw [if_pos c1] at h
    have h := Option.some.inj h
    subst r
    exact ax_end 7 (Exists.intro (some (.int (M_in x1 (0 : Int32) (16 : Int32) s)), s) (And.intro (e_M_in d x1 (0 : Int32) (16 : Int32) s) (And.intro (fun _ => rfl) (fun q => absurd c1 q))))
  · rw [if_neg c1] at h
    by_cases c2 : x1 ≤ (s.2.1 63 5)
    · rw [if_pos c2] at h
      cases hz3 : M_check_l28 70000 x1 (0 : Int32) (ax_sI s 63 5 (0 : Int32)) with
      | none => rw [hz3] at h; cases h
      | some z3 =>
      rw [hz3] at h
      refine ax_cut (pc' := 28) (la := [some (.ref 63), some (.int x1), some (.int (0 : Int32))]) [some (.ref 63), some (.int x1), some (.int (0 : Int32))] (st' := []) (σ' := (ax_sI s 63 5 (0 : Int32))) 14 (And.intro rfl (And.intro rfl (And.intro rfl (trivial)))) (fun _ hh => (Exists.intro (some (.int (M_in x1 (0 : Int32) (16 : Int32) s)), s) (And.intro (e_M_in d x1 (0 : Int32) (16 : Int32) s) (And.intro (fun q => absurd q c1) (fun _ => (And.intro (fun _ => hh) (fun q => absurd c2 q))))))) (w_M_check_l28 d 70000 x1 (0 : Int32) (ax_sI s 63 5 (0 : Int32)) _ hz3 ?_)
      · intro q hq
        subst z3
        dsimp only at h
        cases h
        rfl
    · rw [if_neg c2] at h
      have h := Option.some.inj h
      subst r
      exact ax_end 11 (Exists.intro (some (.int (M_in x1 (0 : Int32) (16 : Int32) s)), s) (And.intro (e_M_in d x1 (0 : Int32) (16 : Int32) s) (And.intro (fun q => absurd q c1) (fun _ => (And.intro (fun q => absurd q c2) (fun _ => rfl))))))
def XLa_howManyRules_36  (s : ax_S) : Int32 :=
  (s.2.1 36 7)
theorem e_XLa_howManyRules_36 (d : Nat)  (s : ax_S) : ax_ev true (d + 1) 173 [.ref 36] s (some (.int (XLa_howManyRules_36 s)), s) := by
  refine ⟨Nat.le_of_ble_eq_true rfl, ?_⟩
  generalize h : XLa_howManyRules_36 s = r
  show ax_go true none (ax_ev true (d + 0)) ax_m173 0 [some (.ref 36)] [] s _
  unfold XLa_howManyRules_36 at h
  have h := h
  subst r
  exact ax_end 3 rfl
def XSt_x_3  (s : ax_S) : Int32 :=
  (s.2.1 3 6)
theorem e_XSt_x_3 (d : Nat)  (s : ax_S) : ax_ev true (d + 1) 174 [.ref 3] s (some (.int (XSt_x_3 s)), s) := by
  refine ⟨Nat.le_of_ble_eq_true rfl, ?_⟩
  generalize h : XSt_x_3 s = r
  show ax_go true none (ax_ev true (d + 0)) ax_m174 0 [some (.ref 3)] [] s _
  unfold XSt_x_3 at h
  have h := h
  subst r
  exact ax_end 3 rfl
def XSt_painOfAll_3_l4 : Nat → Int32 → Int32 → ax_S → Option (Int32)
  | 0, _, _, _ => none
  | n + 1, x1, x2, s =>
    if (16 : Int32) ≤ x2 then (
      some x1) else
    if (x2 < 0 ∨ 16 ≤ (x2).toNatClampNeg) then none else
    XSt_painOfAll_3_l4 n (x1 + (s.2.1 10 (x2).toNatClampNeg)) (x2 + (1)) s
def XSt_painOfAll_3  (s : ax_S) : Option (Int32) :=
  match XSt_painOfAll_3_l4 70000 (0 : Int32) (0 : Int32) s with
  | none => none
  | some v1 =>
    some v1
theorem w_XSt_painOfAll_3_l4 (d : Nat) {o : ax_O} : ∀ (n : Nat) (x1 : Int32) (x2 : Int32) (s : ax_S) (r : Int32) (h : XSt_painOfAll_3_l4 n x1 x2 s = some r) (hk0 : ∀ (t0 : Int32), r = t0 → ax_go true none (ax_ev true (d + 0)) ax_m175 25 [none, some (.int t0), none] [] s o), ax_go true none (ax_ev true (d + 0)) ax_m175 4 [some (.ref 3), some (.int x1), some (.int x2)] [] s o := by
  intro n
  induction n with
  | zero => intro x1 x2 s r h hk0; cases h
  | succ n ih =>
    intro x1 x2 s r h hk0
    rw [XSt_painOfAll_3_l4] at h
    by_cases c1 : (16 : Int32) ≤ x2
    · rw [if_pos c1] at h
      have h := Option.some.inj h
      subst r
      exact ax_cut (pc' := 25) (la := [some (.ref 3), some (.int x1), some (.int x2)]) [none, some (.int x1), none] (st' := []) (σ' := s) 3 (And.intro rfl (trivial)) (fun _ hh => (And.intro (fun _ => hh) (fun q => absurd c1 q))) (hk0 _ rfl)
    · rw [if_neg c1] at h
      by_cases c2 : (x2 < 0 ∨ 16 ≤ (x2).toNatClampNeg)
      · rw [if_pos c2] at h; cases h
      · rw [if_neg c2] at h
        exact ax_cut (pc' := 4) (la := [some (.ref 3), some (.int (x1 + (s.2.1 10 (x2).toNatClampNeg))), some (.int (x2 + (1)))]) [some (.ref 3), some (.int (x1 + (s.2.1 10 (x2).toNatClampNeg))), some (.int (x2 + (1)))] (st' := []) (σ' := s) 12 (And.intro rfl (And.intro rfl (And.intro rfl (trivial)))) (fun _ hh => (And.intro (fun q => absurd q c1) (fun _ => (And.intro c2 hh)))) (ih (x1 + (s.2.1 10 (x2).toNatClampNeg)) (x2 + (1)) s _ h hk0)
theorem e_XSt_painOfAll_3 (d : Nat)  {s : ax_S} {r : Int32} (h : XSt_painOfAll_3 s = some r) : ax_ev true (d + 1) 175 [.ref 3] s (some (.int r), s) := by
  refine ⟨Nat.le_of_ble_eq_true rfl, ?_⟩
  show ax_go true none (ax_ev true (d + 0)) ax_m175 0 [some (.ref 3), none, none] [] s _
  unfold XSt_painOfAll_3 at h
  cases hz1 : XSt_painOfAll_3_l4 70000 (0 : Int32) (0 : Int32) s with
  | none => rw [hz1] at h; cases h
  | some z1 =>
  rw [hz1] at h
  refine ax_cut (pc' := 4) (la := [some (.ref 3), some (.int (0 : Int32)), some (.int (0 : Int32))]) [some (.ref 3), some (.int (0 : Int32)), some (.int (0 : Int32))] (st' := []) (σ' := s) 4 (And.intro rfl (And.intro rfl (And.intro rfl (trivial)))) (fun _ hh => hh) (w_XSt_painOfAll_3_l4 d 70000 (0 : Int32) (0 : Int32) s _ hz1 ?_)
  · intro v1 hq
    subst z1
    dsimp only at h
    have h := Option.some.inj h
    subst r
    exact ax_end 2 rfl
def X_count (x1 : Int32)  (s : ax_S) : Option (Int32) :=
  if x1 = (0) then (
    some (XSt_day_3 s)) else
  if x1 = (1) then (
    some (s.2.1 0 12)) else
  if x1 = (2) then (
    some (XLa_howManyRules_36 s)) else
  if x1 = (3) then (
    some (XTa_length s)) else
  if x1 = (4) then (
    some (XSt_x_3 s)) else
  if x1 = (5) then (
    some (XSt_day_3 s)) else
  if x1 = (6) then (
    match XSt_painOfAll_3 s with
    | none => none
    | some v1 =>
      some v1) else
  some (-1 : Int32)
theorem e_X_count (d : Nat) {x1 : Int32} {s : ax_S} {r : Int32} (h : X_count x1 s = some r) : ax_ev true (d + 2) 172 [.ref 0, .int x1] s (some (.int r), s) := by
  refine ⟨Nat.le_of_ble_eq_true rfl, ?_⟩
  show ax_go true none (ax_ev true (d + 1)) ax_m172 0 [some (.ref 0), some (.int x1)] [] s _
  unfold X_count at h
  by_cases c1_0 : x1 = (0)
  · rw [if_pos c1_0] at h
    have h := Option.some.inj h
    subst r
    exact ax_end 6 (ax_tabT (lo := 0) (hg := 6) (j0 := 0) (congrArg Int32.toInt c1_0) (by rw [c1_0]; decide) (Exists.intro (some (.int (XSt_day_3 s)), s) (And.intro (e_XSt_day_3 d  s) rfl)))
  rw [if_neg c1_0] at h
  by_cases c1_1 : x1 = (1)
  · rw [if_pos c1_1] at h
    have h := Option.some.inj h
    subst r
    exact ax_end 5 (ax_tabT (lo := 0) (hg := 6) (j0 := 1) (congrArg Int32.toInt c1_1) (by rw [c1_1]; decide) rfl)
  rw [if_neg c1_1] at h
  by_cases c1_2 : x1 = (2)
  · rw [if_pos c1_2] at h
    have h := Option.some.inj h
    subst r
    exact ax_end 6 (ax_tabT (lo := 0) (hg := 6) (j0 := 2) (congrArg Int32.toInt c1_2) (by rw [c1_2]; decide) (Exists.intro (some (.int (XLa_howManyRules_36 s)), s) (And.intro (e_XLa_howManyRules_36 d  s) rfl)))
  rw [if_neg c1_2] at h
  by_cases c1_3 : x1 = (3)
  · rw [if_pos c1_3] at h
    have h := Option.some.inj h
    subst r
    exact ax_end 6 (ax_tabT (lo := 0) (hg := 6) (j0 := 3) (congrArg Int32.toInt c1_3) (by rw [c1_3]; decide) (Exists.intro (some (.int (XTa_length s)), s) (And.intro (e_XTa_length d  s) rfl)))
  rw [if_neg c1_3] at h
  by_cases c1_4 : x1 = (4)
  · rw [if_pos c1_4] at h
    have h := Option.some.inj h
    subst r
    exact ax_end 6 (ax_tabT (lo := 0) (hg := 6) (j0 := 4) (congrArg Int32.toInt c1_4) (by rw [c1_4]; decide) (Exists.intro (some (.int (XSt_x_3 s)), s) (And.intro (e_XSt_x_3 d  s) rfl)))
  rw [if_neg c1_4] at h
  by_cases c1_5 : x1 = (5)
  · rw [if_pos c1_5] at h
    have h := Option.some.inj h
    subst r
    exact ax_end 6 (ax_tabT (lo := 0) (hg := 6) (j0 := 5) (congrArg Int32.toInt c1_5) (by rw [c1_5]; decide) (Exists.intro (some (.int (XSt_day_3 s)), s) (And.intro (e_XSt_day_3 d  s) rfl)))
  rw [if_neg c1_5] at h
  by_cases c1_6 : x1 = (6)
  · rw [if_pos c1_6] at h
    cases hz2 : XSt_painOfAll_3 s with
    | none => rw [hz2] at h; cases h
    | some v1 =>
    rw [hz2] at h
    dsimp only at h
    have h := Option.some.inj h
    subst r
    exact ax_end 6 (ax_tabT (lo := 0) (hg := 6) (j0 := 6) (congrArg Int32.toInt c1_6) (by rw [c1_6]; decide) (Exists.intro (some (.int v1), s) (And.intro (e_XSt_painOfAll_3 d hz2) rfl)))
  rw [if_neg c1_6] at h
  have c1_r : (x1).toInt < 0 ∨ 6 < (x1).toInt := by
    have := ax_ne_toInt c1_0
    have := ax_ne_toInt c1_1
    have := ax_ne_toInt c1_2
    have := ax_ne_toInt c1_3
    have := ax_ne_toInt c1_4
    have := ax_ne_toInt c1_5
    have := ax_ne_toInt c1_6
    simp only [show ∀ y : Int32, y.toInt = y.toInt from fun _ => rfl, show ((0) : Int32).toInt = 0 by decide, show ((1) : Int32).toInt = 1 by decide, show ((2) : Int32).toInt = 2 by decide, show ((3) : Int32).toInt = 3 by decide, show ((4) : Int32).toInt = 4 by decide, show ((5) : Int32).toInt = 5 by decide, show ((6) : Int32).toInt = 6 by decide] at *
    omega
  have h := Option.some.inj h
  subst r
  exact ax_end 4 (ax_tabF (lo := 0) (hg := 6) rfl c1_r rfl)
def M_count_l88 : Nat → Int32 → Int32 → ax_S → Option (Int32)
  | 0, _, _, _ => none
  | n + 1, x2, x3, s =>
    if (16 : Int32) ≤ x3 then (
      some x2) else
    if (((60 : Int32) + x3) < 0 ∨ 291 ≤ (((60 : Int32) + x3)).toNatClampNeg) then none else
    M_count_l88 n (x2 + (s.2.1 64 (((60 : Int32) + x3)).toNatClampNeg)) (x3 + (1)) s
def M_count (x1 : Int32)  (s : ax_S) : Option (Int32) :=
  if x1 = (0) then (
    some (s.2.1 64 289)) else
  if x1 = (1) then (
    some (s.2.1 63 3)) else
  if x1 = (2) then (
    some (s.2.1 63 14)) else
  if x1 = (3) then (
    some (s.2.1 63 5)) else
  if x1 = (4) then (
    some (s.2.1 64 290)) else
  if x1 = (5) then (
    some (s.2.1 64 288)) else
  if x1 = (6) then (
    match M_count_l88 70000 (0 : Int32) (0 : Int32) s with
    | none => none
    | some v1 =>
      some v1) else
  some (-1 : Int32)
theorem w_M_count_l88 (d : Nat) {o : ax_O} : ∀ (n : Nat) (x2 : Int32) (x3 : Int32) (s : ax_S) (r : Int32) (h : M_count_l88 n x2 x3 s = some r) (hk0 : ∀ (t0 : Int32), r = t0 → ax_go true none (ax_ev true (d + 0)) ax_m285 112 [none, none, some (.int t0), none] [] s o), ax_go true none (ax_ev true (d + 0)) ax_m285 88 [some (.ref 63), none, some (.int x2), some (.int x3)] [] s o := by
  intro n
  induction n with
  | zero => intro x2 x3 s r h hk0; cases h
  | succ n ih =>
    intro x2 x3 s r h hk0
    rw [M_count_l88] at h
    by_cases c1 : (16 : Int32) ≤ x3
    · rw [if_pos c1] at h
      have h := Option.some.inj h
      subst r
      exact ax_cut (pc' := 112) (la := [some (.ref 63), none, some (.int x2), some (.int x3)]) [none, none, some (.int x2), none] (st' := []) (σ' := s) 3 (And.intro rfl (trivial)) (fun _ hh => (And.intro (fun _ => hh) (fun q => absurd c1 q))) (hk0 _ rfl)
    · rw [if_neg c1] at h
      by_cases c2 : (((60 : Int32) + x3) < 0 ∨ 291 ≤ (((60 : Int32) + x3)).toNatClampNeg)
      · rw [if_pos c2] at h; cases h
      · rw [if_neg c2] at h
        exact ax_cut (pc' := 88) (la := [some (.ref 63), none, some (.int (x2 + (s.2.1 64 (((60 : Int32) + x3)).toNatClampNeg))), some (.int (x3 + (1)))]) [some (.ref 63), none, some (.int (x2 + (s.2.1 64 (((60 : Int32) + x3)).toNatClampNeg))), some (.int (x3 + (1)))] (st' := []) (σ' := s) 14 (And.intro rfl (And.intro rfl (And.intro rfl (trivial)))) (fun _ hh => (And.intro (fun q => absurd q c1) (fun _ => (And.intro c2 hh)))) (ih (x2 + (s.2.1 64 (((60 : Int32) + x3)).toNatClampNeg)) (x3 + (1)) s _ h hk0)
theorem e_M_count (d : Nat) {x1 : Int32} {s : ax_S} {r : Int32} (h : M_count x1 s = some r) : ax_ev true (d + 1) 285 [.ref 63, .int x1] s (some (.int r), s) := by
  refine ⟨Nat.le_of_ble_eq_true rfl, ?_⟩
  show ax_go true none (ax_ev true (d + 0)) ax_m285 0 [some (.ref 63), some (.int x1), none, none] [] s _
  unfold M_count at h
  by_cases c1_0 : x1 = (0)
  · rw [if_pos c1_0] at h
    have h := Option.some.inj h
    subst r
    exact ax_end 9 (ax_tabT (lo := 0) (hg := 6) (j0 := 0) (congrArg Int32.toInt c1_0) (by rw [c1_0]; decide) (And.intro (show ¬ ((289 : Int32) < 0 ∨ 291 ≤ ((289 : Int32)).toNatClampNeg) by decide) rfl))
  rw [if_neg c1_0] at h
  by_cases c1_1 : x1 = (1)
  · rw [if_pos c1_1] at h
    have h := Option.some.inj h
    subst r
    exact ax_end 7 (ax_tabT (lo := 0) (hg := 6) (j0 := 1) (congrArg Int32.toInt c1_1) (by rw [c1_1]; decide) rfl)
  rw [if_neg c1_1] at h
  by_cases c1_2 : x1 = (2)
  · rw [if_pos c1_2] at h
    have h := Option.some.inj h
    subst r
    exact ax_end 7 (ax_tabT (lo := 0) (hg := 6) (j0 := 2) (congrArg Int32.toInt c1_2) (by rw [c1_2]; decide) rfl)
  rw [if_neg c1_2] at h
  by_cases c1_3 : x1 = (3)
  · rw [if_pos c1_3] at h
    have h := Option.some.inj h
    subst r
    exact ax_end 7 (ax_tabT (lo := 0) (hg := 6) (j0 := 3) (congrArg Int32.toInt c1_3) (by rw [c1_3]; decide) rfl)
  rw [if_neg c1_3] at h
  by_cases c1_4 : x1 = (4)
  · rw [if_pos c1_4] at h
    have h := Option.some.inj h
    subst r
    exact ax_end 9 (ax_tabT (lo := 0) (hg := 6) (j0 := 4) (congrArg Int32.toInt c1_4) (by rw [c1_4]; decide) (And.intro (show ¬ ((290 : Int32) < 0 ∨ 291 ≤ ((290 : Int32)).toNatClampNeg) by decide) rfl))
  rw [if_neg c1_4] at h
  by_cases c1_5 : x1 = (5)
  · rw [if_pos c1_5] at h
    have h := Option.some.inj h
    subst r
    exact ax_end 9 (ax_tabT (lo := 0) (hg := 6) (j0 := 5) (congrArg Int32.toInt c1_5) (by rw [c1_5]; decide) (And.intro (show ¬ ((288 : Int32) < 0 ∨ 291 ≤ ((288 : Int32)).toNatClampNeg) by decide) rfl))
  rw [if_neg c1_5] at h
  by_cases c1_6 : x1 = (6)
  · rw [if_pos c1_6] at h
    cases hz2 : M_count_l88 70000 (0 : Int32) (0 : Int32) s with
    | none => rw [hz2] at h; cases h
    | some z2 =>
    rw [hz2] at h
    refine ax_cut (pc' := 88) (la := [some (.ref 63), some (.int x1), some (.int (0 : Int32)), some (.int (0 : Int32))]) [some (.ref 63), none, some (.int (0 : Int32)), some (.int (0 : Int32))] (st' := []) (σ' := s) 6 (And.intro rfl (And.intro rfl (And.intro rfl (trivial)))) (fun _ hh => (ax_tabT (lo := 0) (hg := 6) (j0 := 6) (congrArg Int32.toInt c1_6) (by rw [c1_6]; decide) hh)) (w_M_count_l88 d 70000 (0 : Int32) (0 : Int32) s _ hz2 ?_)
    · intro v1 hq
      subst z2
      dsimp only at h
      have h := Option.some.inj h
      subst r
      exact ax_end 2 rfl
  rw [if_neg c1_6] at h
  have c1_r : (x1).toInt < 0 ∨ 6 < (x1).toInt := by
    have := ax_ne_toInt c1_0
    have := ax_ne_toInt c1_1
    have := ax_ne_toInt c1_2
    have := ax_ne_toInt c1_3
    have := ax_ne_toInt c1_4
    have := ax_ne_toInt c1_5
    have := ax_ne_toInt c1_6
    simp only [show ∀ y : Int32, y.toInt = y.toInt from fun _ => rfl, show ((0) : Int32).toInt = 0 by decide, show ((1) : Int32).toInt = 1 by decide, show ((2) : Int32).toInt = 2 by decide, show ((3) : Int32).toInt = 3 by decide, show ((4) : Int32).toInt = 4 by decide, show ((5) : Int32).toInt = 5 by decide, show ((6) : Int32).toInt = 6 by decide] at *
    omega
  have h := Option.some.inj h
  subst r
  exact ax_end 6 (ax_tabF (lo := 0) (hg := 6) rfl c1_r rfl)
