def XFi_move_26 (x1 : Int32) (x2 : Int32) (x3 : Int32)  (s : ax_S) : Option (ax_S) :=
  match XFi_isTold_26 x1 s with
  | none => none
  | some v1 =>
    if v1 = 0 then (
      some s) else
    if (x1 < 0 ∨ 12 ≤ (x1).toNatClampNeg) then none else
    if (x1 < 0 ∨ 12 ≤ (x1).toNatClampNeg) then none else
    if (x1 < 0 ∨ 12 ≤ (x1).toNatClampNeg) then none else
    if (x1 < 0 ∨ 12 ≤ (x1).toNatClampNeg) then none else
    if (X_isOnPrint ((s.2.1 28 (x1).toNatClampNeg) + x2) ((s.2.1 29 (x1).toNatClampNeg) + x3) (s.2.1 30 (x1).toNatClampNeg) (s.2.1 31 (x1).toNatClampNeg) s) = 0 then (
      some s) else
    if (x1 < 0 ∨ 12 ≤ (x1).toNatClampNeg) then none else
    if (x1 < 0 ∨ 12 ≤ (x1).toNatClampNeg) then none else
    if (x1 < 0 ∨ 12 ≤ (x1).toNatClampNeg) then none else
    if (x1 < 0 ∨ 12 ≤ (x1).toNatClampNeg) then none else
    some (ax_sI (ax_sI s 28 (x1).toNatClampNeg ((s.2.1 28 (x1).toNatClampNeg) + x2)) 29 (x1).toNatClampNeg ((s.2.1 29 (x1).toNatClampNeg) + x3))
theorem e_XFi_move_26 (d : Nat) {x1 : Int32} {x2 : Int32} {x3 : Int32} {s : ax_S} {r : ax_S} (h : XFi_move_26 x1 x2 x3 s = some r) : ax_ev true (d + 3) 40 [.ref 26, .int x1, .int x2, .int x3] s (none, r) := by
  refine ⟨Nat.le_of_ble_eq_true rfl, ?_⟩
  show ax_go true none (ax_ev true (d + 2)) ax_m40 0 [some (.ref 26), some (.int x1), some (.int x2), some (.int x3)] [] s _
  unfold XFi_move_26 at h
  cases hz1 : XFi_isTold_26 x1 s with
  | none => rw [hz1] at h; cases h
  | some v1 =>
  rw [hz1] at h
  dsimp only at h
  by_cases c2 : v1 = 0
  · rw [if_pos c2] at h
    have h := Option.some.inj h
    subst r
    exact ax_end 5 (Exists.intro (some (.int v1), s) (And.intro (e_XFi_isTold_26 (d + 1) hz1) (And.intro (fun _ => rfl) (fun q => absurd c2 q))))
  · rw [if_neg c2] at h
    by_cases c3 : (x1 < 0 ∨ 12 ≤ (x1).toNatClampNeg)
    · rw [if_pos c3] at h; cases h
    · rw [if_neg c3] at h
      by_cases c4 : (x1 < 0 ∨ 12 ≤ (x1).toNatClampNeg)
      · rw [if_pos c4] at h; cases h
      · rw [if_neg c4] at h
        refine ax_cut (pc' := 24) (la := [some (.ref 26), some (.int x1), some (.int x2), some (.int x3)]) [some (.ref 26), some (.int x1), some (.int x2), some (.int x3)] (st' := [.int ((s.2.1 29 (x1).toNatClampNeg) + x3), .int ((s.2.1 28 (x1).toNatClampNeg) + x2)]) (σ' := s) 16 (And.intro rfl (And.intro rfl (And.intro rfl (And.intro rfl (trivial))))) (fun _ hh => (Exists.intro (some (.int v1), s) (And.intro (e_XFi_isTold_26 (d + 1) hz1) (And.intro (fun q => absurd q c2) (fun _ => (And.intro c3 (And.intro c4 hh))))))) ?_
        by_cases c5 : (x1 < 0 ∨ 12 ≤ (x1).toNatClampNeg)
        · rw [if_pos c5] at h; cases h
        · rw [if_neg c5] at h
          by_cases c6 : (x1 < 0 ∨ 12 ≤ (x1).toNatClampNeg)
          · rw [if_pos c6] at h; cases h
          · rw [if_neg c6] at h
            by_cases c7 : (X_isOnPrint ((s.2.1 28 (x1).toNatClampNeg) + x2) ((s.2.1 29 (x1).toNatClampNeg) + x3) (s.2.1 30 (x1).toNatClampNeg) (s.2.1 31 (x1).toNatClampNeg) s) = 0
            · rw [if_pos c7] at h
              have h := Option.some.inj h
              subst r
              exact ax_end 11 (And.intro c5 (And.intro c6 (Exists.intro (some (.int (X_isOnPrint ((s.2.1 28 (x1).toNatClampNeg) + x2) ((s.2.1 29 (x1).toNatClampNeg) + x3) (s.2.1 30 (x1).toNatClampNeg) (s.2.1 31 (x1).toNatClampNeg) s)), s) (And.intro (e_X_isOnPrint d ((s.2.1 28 (x1).toNatClampNeg) + x2) ((s.2.1 29 (x1).toNatClampNeg) + x3) (s.2.1 30 (x1).toNatClampNeg) (s.2.1 31 (x1).toNatClampNeg) s) (And.intro (fun _ => rfl) (fun q => absurd c7 q))))))
            · rw [if_neg c7] at h
              by_cases c8 : (x1 < 0 ∨ 12 ≤ (x1).toNatClampNeg)
              · rw [if_pos c8] at h; cases h
              · rw [if_neg c8] at h
                refine ax_cut (pc' := 50) (la := [some (.ref 26), some (.int x1), some (.int x2), some (.int x3)]) [some (.ref 26), some (.int x1), none, some (.int x3)] (st' := [.int x2, .int (s.2.1 28 (x1).toNatClampNeg), .int x1, .ref 28]) (σ' := s) 16 (And.intro rfl (And.intro rfl (And.intro rfl (trivial)))) (fun _ hh => (And.intro c5 (And.intro c6 (Exists.intro (some (.int (X_isOnPrint ((s.2.1 28 (x1).toNatClampNeg) + x2) ((s.2.1 29 (x1).toNatClampNeg) + x3) (s.2.1 30 (x1).toNatClampNeg) (s.2.1 31 (x1).toNatClampNeg) s)), s) (And.intro (e_X_isOnPrint d ((s.2.1 28 (x1).toNatClampNeg) + x2) ((s.2.1 29 (x1).toNatClampNeg) + x3) (s.2.1 30 (x1).toNatClampNeg) (s.2.1 31 (x1).toNatClampNeg) s) (And.intro (fun q => absurd q c7) (fun _ => (And.intro c8 hh)))))))) ?_
                by_cases c9 : (x1 < 0 ∨ 12 ≤ (x1).toNatClampNeg)
                · rw [if_pos c9] at h; cases h
                · rw [if_neg c9] at h
                  by_cases c10 : (x1 < 0 ∨ 12 ≤ (x1).toNatClampNeg)
                  · rw [if_pos c10] at h; cases h
                  · rw [if_neg c10] at h
                    by_cases c11 : (x1 < 0 ∨ 12 ≤ (x1).toNatClampNeg)
                    · rw [if_pos c11] at h; cases h
                    · rw [if_neg c11] at h
                      have h := Option.some.inj h
                      subst r
                      exact ax_end 11 (And.intro c9 (And.intro c10 (And.intro c11 rfl)))
def XEdRe_readFigureEdit_j20 (x1 : Int32) (y0 : Int32)  (s : ax_S) : ax_S :=
  if y0 = 0 then (
    (XTa_refuseNumber (7 : Int32) s)) else
  s
def XEdRe_readFigureEdit_j39 (x1 : Int32) (y0 : Int32)  (s : ax_S) : Option (ax_S) :=
  if y0 = (33) then (
    match XFi_takeOut_26 x1 s with
    | none => none
    | some s6 =>
      some s6) else
  if y0 = (60) then (
    match XFi_move_26 x1 (-1 : Int32) (0 : Int32) s with
    | none => none
    | some s7 =>
      some s7) else
  if y0 = (62) then (
    match XFi_move_26 x1 (1 : Int32) (0 : Int32) s with
    | none => none
    | some s8 =>
      some s8) else
  if y0 = (94) then (
    match XFi_move_26 x1 (0 : Int32) (-1 : Int32) s with
    | none => none
    | some s9 =>
      some s9) else
  if y0 = (95) then (
    match XFi_move_26 x1 (0 : Int32) (1 : Int32) s with
    | none => none
    | some s10 =>
      some s10) else
  some (XTa_refuse (1 : Int32) s)
def XEdRe_readFigureEdit  (s : ax_S) : Option (ax_S) :=
  match XTa_readNumber (2 : Int32) s with
  | none => none
  | some (v1, s2) =>
    match XFi_isTold_26 v1 s2 with
    | none => none
    | some v3 =>
      match XTa_peek (XEdRe_readFigureEdit_j20 v1 v3 s2) with
      | none => none
      | some v5 =>
        match XEdRe_readFigureEdit_j39 v1 v5 (XEdRe_readFigureEdit_j20 v1 v3 s2) with
        | none => none
        | some s11 =>
          some (XTa_step s11)
theorem w_XEdRe_readFigureEdit_j20 (d : Nat) {o : ax_O} (x1 : Int32) (y0 : Int32) (s : ax_S) (r : ax_S) (h : XEdRe_readFigureEdit_j20 x1 y0 s = r) (hk0 : ∀ (t0 : ax_S), r = t0 → ax_go true none (ax_ev true (d + 3)) ax_m35 32 [some (.ref 53), some (.int x1)] [] t0 o) : ax_go true none (ax_ev true (d + 3)) ax_m35 20 [some (.ref 53), some (.int x1)] [.int y0] s o := by
  unfold XEdRe_readFigureEdit_j20 at h
  by_cases c1 : y0 = 0
  · rw [if_pos c1] at h
    have h := h
    subst r
    exact ax_cut (pc' := 32) (la := [some (.ref 53), some (.int x1)]) [some (.ref 53), some (.int x1)] (st' := []) (σ' := (XTa_refuseNumber (7 : Int32) s)) 5 (And.intro rfl (And.intro rfl (trivial))) (fun _ hh => (And.intro (fun q => absurd c1 q) (fun _ => (Exists.intro (none, (XTa_refuseNumber (7 : Int32) s)) (And.intro (e_XTa_refuseNumber (d + 1) (7 : Int32) s) hh))))) (hk0 _ rfl)
  · rw [if_neg c1] at h
    have h := h
    subst r
    exact ax_cut (pc' := 32) (la := [some (.ref 53), some (.int x1)]) [some (.ref 53), some (.int x1)] (st' := []) (σ' := s) 1 (And.intro rfl (And.intro rfl (trivial))) (fun _ hh => (And.intro (fun _ => hh) (fun q => absurd c1 q))) (hk0 _ rfl)
theorem w_XEdRe_readFigureEdit_j39 (d : Nat) {o : ax_O} (x1 : Int32) (y0 : Int32) (s : ax_S) (r : ax_S) (h : XEdRe_readFigureEdit_j39 x1 y0 s = some r) (hk0 : ∀ (t0 : ax_S), r = t0 → ax_go true none (ax_ev true (d + 3)) ax_m35 174 [some (.ref 53), none] [] t0 o) : ax_go true none (ax_ev true (d + 3)) ax_m35 39 [some (.ref 53), some (.int x1)] [.int y0] s o := by
  unfold XEdRe_readFigureEdit_j39 at h
  by_cases c1_0 : y0 = (33)
  · rw [if_pos c1_0] at h
    cases hz2 : XFi_takeOut_26 x1 s with
    | none => rw [hz2] at h; cases h
    | some s6 =>
    rw [hz2] at h
    dsimp only at h
    have h := Option.some.inj h
    subst r
    exact ax_cut (pc' := 174) (la := [some (.ref 53), some (.int x1)]) [some (.ref 53), none] (st' := []) (σ' := s6) 7 (And.intro rfl (trivial)) (fun _ hh => (And.intro (List.forall_mem_cons.mpr ⟨fun _ => (Exists.intro (none, s6) (And.intro (e_XFi_takeOut_26 (d + 1) hz2) hh)), List.forall_mem_cons.mpr ⟨fun e => absurd (e.symm.trans (congrArg Int32.toInt c1_0)) (by decide), List.forall_mem_cons.mpr ⟨fun e => absurd (e.symm.trans (congrArg Int32.toInt c1_0)) (by decide), List.forall_mem_cons.mpr ⟨fun e => absurd (e.symm.trans (congrArg Int32.toInt c1_0)) (by decide), List.forall_mem_cons.mpr ⟨fun e => absurd (e.symm.trans (congrArg Int32.toInt c1_0)) (by decide), fun _ h0 => absurd h0 List.not_mem_nil⟩⟩⟩⟩⟩) (fun q => absurd (congrArg Int32.toInt c1_0) (q (33, 113) (by decide))))) (hk0 _ rfl)
  rw [if_neg c1_0] at h
  by_cases c1_1 : y0 = (60)
  · rw [if_pos c1_1] at h
    cases hz3 : XFi_move_26 x1 (-1 : Int32) (0 : Int32) s with
    | none => rw [hz3] at h; cases h
    | some s7 =>
    rw [hz3] at h
    dsimp only at h
    have h := Option.some.inj h
    subst r
    exact ax_cut (pc' := 174) (la := [some (.ref 53), some (.int x1)]) [some (.ref 53), none] (st' := []) (σ' := s7) 9 (And.intro rfl (trivial)) (fun _ hh => (And.intro (List.forall_mem_cons.mpr ⟨fun e => absurd (e.symm.trans (congrArg Int32.toInt c1_1)) (by decide), List.forall_mem_cons.mpr ⟨fun _ => (Exists.intro (none, s7) (And.intro (e_XFi_move_26 d hz3) hh)), List.forall_mem_cons.mpr ⟨fun e => absurd (e.symm.trans (congrArg Int32.toInt c1_1)) (by decide), List.forall_mem_cons.mpr ⟨fun e => absurd (e.symm.trans (congrArg Int32.toInt c1_1)) (by decide), List.forall_mem_cons.mpr ⟨fun e => absurd (e.symm.trans (congrArg Int32.toInt c1_1)) (by decide), fun _ h0 => absurd h0 List.not_mem_nil⟩⟩⟩⟩⟩) (fun q => absurd (congrArg Int32.toInt c1_1) (q (60, 49) (by decide))))) (hk0 _ rfl)
  rw [if_neg c1_1] at h
  by_cases c1_2 : y0 = (62)
  · rw [if_pos c1_2] at h
    cases hz4 : XFi_move_26 x1 (1 : Int32) (0 : Int32) s with
    | none => rw [hz4] at h; cases h
    | some s8 =>
    rw [hz4] at h
    dsimp only at h
    have h := Option.some.inj h
    subst r
    exact ax_cut (pc' := 174) (la := [some (.ref 53), some (.int x1)]) [some (.ref 53), none] (st' := []) (σ' := s8) 9 (And.intro rfl (trivial)) (fun _ hh => (And.intro (List.forall_mem_cons.mpr ⟨fun e => absurd (e.symm.trans (congrArg Int32.toInt c1_2)) (by decide), List.forall_mem_cons.mpr ⟨fun e => absurd (e.symm.trans (congrArg Int32.toInt c1_2)) (by decide), List.forall_mem_cons.mpr ⟨fun _ => (Exists.intro (none, s8) (And.intro (e_XFi_move_26 d hz4) hh)), List.forall_mem_cons.mpr ⟨fun e => absurd (e.symm.trans (congrArg Int32.toInt c1_2)) (by decide), List.forall_mem_cons.mpr ⟨fun e => absurd (e.symm.trans (congrArg Int32.toInt c1_2)) (by decide), fun _ h0 => absurd h0 List.not_mem_nil⟩⟩⟩⟩⟩) (fun q => absurd (congrArg Int32.toInt c1_2) (q (62, 65) (by decide))))) (hk0 _ rfl)
  rw [if_neg c1_2] at h
  by_cases c1_3 : y0 = (94)
  · rw [if_pos c1_3] at h
    cases hz5 : XFi_move_26 x1 (0 : Int32) (-1 : Int32) s with
    | none => rw [hz5] at h; cases h
    | some s9 =>
    rw [hz5] at h
    dsimp only at h
    have h := Option.some.inj h
    subst r
    exact ax_cut (pc' := 174) (la := [some (.ref 53), some (.int x1)]) [some (.ref 53), none] (st' := []) (σ' := s9) 9 (And.intro rfl (trivial)) (fun _ hh => (And.intro (List.forall_mem_cons.mpr ⟨fun e => absurd (e.symm.trans (congrArg Int32.toInt c1_3)) (by decide), List.forall_mem_cons.mpr ⟨fun e => absurd (e.symm.trans (congrArg Int32.toInt c1_3)) (by decide), List.forall_mem_cons.mpr ⟨fun e => absurd (e.symm.trans (congrArg Int32.toInt c1_3)) (by decide), List.forall_mem_cons.mpr ⟨fun _ => (Exists.intro (none, s9) (And.intro (e_XFi_move_26 d hz5) hh)), List.forall_mem_cons.mpr ⟨fun e => absurd (e.symm.trans (congrArg Int32.toInt c1_3)) (by decide), fun _ h0 => absurd h0 List.not_mem_nil⟩⟩⟩⟩⟩) (fun q => absurd (congrArg Int32.toInt c1_3) (q (94, 81) (by decide))))) (hk0 _ rfl)
  rw [if_neg c1_3] at h
  by_cases c1_4 : y0 = (95)
  · rw [if_pos c1_4] at h
    cases hz6 : XFi_move_26 x1 (0 : Int32) (1 : Int32) s with
    | none => rw [hz6] at h; cases h
    | some s10 =>
    rw [hz6] at h
    dsimp only at h
    have h := Option.some.inj h
    subst r
    exact ax_cut (pc' := 174) (la := [some (.ref 53), some (.int x1)]) [some (.ref 53), none] (st' := []) (σ' := s10) 9 (And.intro rfl (trivial)) (fun _ hh => (And.intro (List.forall_mem_cons.mpr ⟨fun e => absurd (e.symm.trans (congrArg Int32.toInt c1_4)) (by decide), List.forall_mem_cons.mpr ⟨fun e => absurd (e.symm.trans (congrArg Int32.toInt c1_4)) (by decide), List.forall_mem_cons.mpr ⟨fun e => absurd (e.symm.trans (congrArg Int32.toInt c1_4)) (by decide), List.forall_mem_cons.mpr ⟨fun e => absurd (e.symm.trans (congrArg Int32.toInt c1_4)) (by decide), List.forall_mem_cons.mpr ⟨fun _ => (Exists.intro (none, s10) (And.intro (e_XFi_move_26 d hz6) hh)), fun _ h0 => absurd h0 List.not_mem_nil⟩⟩⟩⟩⟩) (fun q => absurd (congrArg Int32.toInt c1_4) (q (95, 97) (by decide))))) (hk0 _ rfl)
  rw [if_neg c1_4] at h
  have h := Option.some.inj h
  subst r
  exact ax_cut (pc' := 174) (la := [some (.ref 53), some (.int x1)]) [some (.ref 53), none] (st' := []) (σ' := (XTa_refuse (1 : Int32) s)) 5 (And.intro rfl (trivial)) (fun _ hh => (And.intro (List.forall_mem_cons.mpr ⟨fun e => absurd (Int32.toInt_inj.mp e) c1_0, List.forall_mem_cons.mpr ⟨fun e => absurd (Int32.toInt_inj.mp e) c1_1, List.forall_mem_cons.mpr ⟨fun e => absurd (Int32.toInt_inj.mp e) c1_2, List.forall_mem_cons.mpr ⟨fun e => absurd (Int32.toInt_inj.mp e) c1_3, List.forall_mem_cons.mpr ⟨fun e => absurd (Int32.toInt_inj.mp e) c1_4, fun _ h0 => absurd h0 List.not_mem_nil⟩⟩⟩⟩⟩) (fun _ => (Exists.intro (none, (XTa_refuse (1 : Int32) s)) (And.intro (e_XTa_refuse (d + 1) (1 : Int32) s) hh))))) (hk0 _ rfl)
theorem e_XEdRe_readFigureEdit (d : Nat)  {s : ax_S} {r : ax_S} (h : XEdRe_readFigureEdit s = some r) : ax_ev true (d + 4) 35 [.ref 53] s (none, r) := by
  refine ⟨Nat.le_of_ble_eq_true rfl, ?_⟩
  show ax_go true none (ax_ev true (d + 3)) ax_m35 0 [some (.ref 53), none] [] s _
  unfold XEdRe_readFigureEdit at h
  cases hz1 : XTa_readNumber (2 : Int32) s with
  | none => rw [hz1] at h; cases h
  | some z1 =>
  rw [hz1] at h
  obtain ⟨v1, s2⟩ := z1
  dsimp only at h
  cases hz2 : XFi_isTold_26 v1 s2 with
  | none => rw [hz2] at h; cases h
  | some v3 =>
  rw [hz2] at h
  dsimp only at h
  refine ax_cut (pc' := 20) (la := [some (.ref 53), some (.int v1)]) [some (.ref 53), some (.int v1)] (st' := [.int v3]) (σ' := s2) 10 (And.intro rfl (And.intro rfl (trivial))) (fun _ hh => (Exists.intro (some (.int v1), s2) (And.intro (e_XTa_readNumber (d + 1) hz1) (Exists.intro (some (.int v3), s2) (And.intro (e_XFi_isTold_26 (d + 2) hz2) hh))))) (w_XEdRe_readFigureEdit_j20 d v1 v3 s2 _ rfl (fun s4 hq => ?_))
  obtain rfl : s4 = (XEdRe_readFigureEdit_j20 v1 v3 s2) := hq.symm
  cases hz3 : XTa_peek (XEdRe_readFigureEdit_j20 v1 v3 s2) with
  | none => rw [hz3] at h; cases h
  | some v5 =>
  rw [hz3] at h
  dsimp only at h
  cases hz4 : XEdRe_readFigureEdit_j39 v1 v5 (XEdRe_readFigureEdit_j20 v1 v3 s2) with
  | none => rw [hz4] at h; cases h
  | some z4 =>
  rw [hz4] at h
  refine ax_cut (pc' := 39) (la := [some (.ref 53), some (.int v1)]) [some (.ref 53), some (.int v1)] (st' := [.int v5]) (σ' := (XEdRe_readFigureEdit_j20 v1 v3 s2)) 3 (And.intro rfl (And.intro rfl (trivial))) (fun _ hh => (Exists.intro (some (.int v5), (XEdRe_readFigureEdit_j20 v1 v3 s2)) (And.intro (e_XTa_peek (d + 2) hz3) hh))) (w_XEdRe_readFigureEdit_j39 d v1 v5 (XEdRe_readFigureEdit_j20 v1 v3 s2) _ hz4 ?_)
  · intro s11 hq
    subst z4
    dsimp only at h
    have h := Option.some.inj h
    subst r
    exact ax_end 4 (Exists.intro (none, (XTa_step s11)) (And.intro (e_XTa_step (d + 2)  s11) rfl))
def XEdRe_readLine (x1 : Int32)  (s : ax_S) : Option (ax_S) :=
  match XTa_peek s with
  | none => none
  | some v1 =>
    if v1 = (35 : Int32) then (
      match XEdRe_readFigureEdit (XTa_step s) with
      | none => none
      | some s3 =>
        some s3) else
    match XEdRe_readPainEdit (v1 - (97 : Int32)) (XTa_step s) with
    | none => none
    | some s2 =>
      some s2
theorem e_XEdRe_readLine (d : Nat) {x1 : Int32} {s : ax_S} {r : ax_S} (h : XEdRe_readLine x1 s = some r) : ax_ev true (d + 5) 33 [.ref 53, .int x1] s (none, r) := by
  refine ⟨Nat.le_of_ble_eq_true rfl, ?_⟩
  show ax_go true none (ax_ev true (d + 4)) ax_m33 0 [some (.ref 53), some (.int x1), none] [] s _
  unfold XEdRe_readLine at h
  cases hz1 : XTa_peek s with
  | none => rw [hz1] at h; cases h
  | some v1 =>
  rw [hz1] at h
  dsimp only at h
  by_cases c2 : v1 = (35 : Int32)
  · rw [if_pos c2] at h
    cases hz3 : XEdRe_readFigureEdit (XTa_step s) with
    | none => rw [hz3] at h; cases h
    | some s3 =>
    rw [hz3] at h
    dsimp only at h
    have h := Option.some.inj h
    subst r
    exact ax_end 14 (Exists.intro (some (.int v1), s) (And.intro (e_XTa_peek (d + 3) hz1) (Exists.intro (none, (XTa_step s)) (And.intro (e_XTa_step (d + 3)  s) (And.intro (fun q => absurd c2 q) (fun _ => (Exists.intro (none, s3) (And.intro (e_XEdRe_readFigureEdit d hz3) rfl))))))))
  · rw [if_neg c2] at h
    cases hz4 : XEdRe_readPainEdit (v1 - (97 : Int32)) (XTa_step s) with
    | none => rw [hz4] at h; cases h
    | some s2 =>
    rw [hz4] at h
    dsimp only at h
    have h := Option.some.inj h
    subst r
    exact ax_end 16 (Exists.intro (some (.int v1), s) (And.intro (e_XTa_peek (d + 3) hz1) (Exists.intro (none, (XTa_step s)) (And.intro (e_XTa_step (d + 3)  s) (And.intro (fun _ => (Exists.intro (none, s2) (And.intro (e_XEdRe_readPainEdit d hz4) rfl))) (fun q => absurd c2 q))))))
def XLiRe_readLines_53_j29 (x2 : Int32) (y0 : Int32)  (s : ax_S) : Option (ax_S) :=
  if y0 = 0 then (
    some (XTa_refuse (1 : Int32) s)) else
  if x2 = (s.2.1 53 1) then (
    some (XTa_refuse (4 : Int32) s)) else
  match XEdRe_readLine x2 s with
  | none => none
  | some s2 =>
    some s2
def XLiRe_readLines_53_l10 : Nat → Int32 → ax_S → Option (Int32 × ax_S)
  | 0, _, _ => none
  | n + 1, x2, s =>
    if (s.2.1 53 1) < x2 then (
      some ((XTa_fault s), s)) else
    match XTa_peek s with
    | none => none
    | some v1 =>
      match XLiRe_readLines_53_j29 x2 (XEdRe_canBegin v1 s) s with
      | none => none
      | some s3 =>
        if (XTa_isFaulty s3) = 0 then (
          if (XTa_isAtEnd s3) = 0 then (
            match XTa_take (59 : Int32) s3 with
            | none => none
            | some (v4, s5) =>
              if v4 = 0 then (
                some ((XTa_fault s5), s5)) else
              XLiRe_readLines_53_l10 n (x2 + (1)) s5) else
          some ((x2 + (1 : Int32)), s3)) else
        some ((XTa_fault s3), s3)
def XLiRe_readLines_53 (x1 : Int32)  (s : ax_S) : Option (Int32 × ax_S) :=
  match XLiRe_readLines_53_l10 70000 (0 : Int32) (XTa_beginText x1 s) with
  | none => none
  | some r => some r
theorem w_XLiRe_readLines_53_j29 (d : Nat) {o : ax_O} (x2 : Int32) (y0 : Int32) (s : ax_S) (r : ax_S) (h : XLiRe_readLines_53_j29 x2 y0 s = some r) (hk0 : ∀ (t0 : ax_S), r = t0 → ax_go true none (ax_ev true (d + 5)) ax_m24 67 [some (.ref 53), none, some (.int x2)] [] t0 o) : ax_go true none (ax_ev true (d + 5)) ax_m24 29 [some (.ref 53), none, some (.int x2)] [.int y0] s o := by
  unfold XLiRe_readLines_53_j29 at h
  by_cases c1 : y0 = 0
  · rw [if_pos c1] at h
    have h := Option.some.inj h
    subst r
    exact ax_cut (pc' := 67) (la := [some (.ref 53), none, some (.int x2)]) [some (.ref 53), none, some (.int x2)] (st' := []) (σ' := (XTa_refuse (1 : Int32) s)) 6 (And.intro rfl (And.intro rfl (trivial))) (fun _ hh => (And.intro (fun q => absurd c1 q) (fun _ => (Exists.intro (none, (XTa_refuse (1 : Int32) s)) (And.intro (e_XTa_refuse (d + 3) (1 : Int32) s) hh))))) (hk0 _ rfl)
  · rw [if_neg c1] at h
    by_cases c2 : x2 = (s.2.1 53 1)
    · rw [if_pos c2] at h
      have h := Option.some.inj h
      subst r
      exact ax_cut (pc' := 67) (la := [some (.ref 53), none, some (.int x2)]) [some (.ref 53), none, some (.int x2)] (st' := []) (σ' := (XTa_refuse (4 : Int32) s)) 10 (And.intro rfl (And.intro rfl (trivial))) (fun _ hh => (And.intro (fun _ => (And.intro (fun q => absurd c2 q) (fun _ => (Exists.intro (none, (XTa_refuse (4 : Int32) s)) (And.intro (e_XTa_refuse (d + 3) (4 : Int32) s) hh))))) (fun q => absurd c1 q))) (hk0 _ rfl)
    · rw [if_neg c2] at h
      cases hz3 : XEdRe_readLine x2 s with
      | none => rw [hz3] at h; cases h
      | some s2 =>
      rw [hz3] at h
      dsimp only at h
      have h := Option.some.inj h
      subst r
      exact ax_cut (pc' := 67) (la := [some (.ref 53), none, some (.int x2)]) [some (.ref 53), none, some (.int x2)] (st' := []) (σ' := s2) 8 (And.intro rfl (And.intro rfl (trivial))) (fun _ hh => (And.intro (fun _ => (And.intro (fun _ => (Exists.intro (none, s2) (And.intro (e_XEdRe_readLine d hz3) hh))) (fun q => absurd c2 q))) (fun q => absurd c1 q))) (hk0 _ rfl)
theorem w_XLiRe_readLines_53_l10 (d : Nat) {o : ax_O} : ∀ (n : Nat) (x2 : Int32) (s : ax_S) (r : Int32 × ax_S) (h : XLiRe_readLines_53_l10 n x2 s = some r) (hkr : ∀ q, r = q → o = (some (.int q.1), q.2)), ax_go true none (ax_ev true (d + 5)) ax_m24 10 [some (.ref 53), none, some (.int x2)] [] s o := by
  intro n
  induction n with
  | zero => intro x2 s r h hkr; cases h
  | succ n ih =>
    intro x2 s r h hkr
    rw [XLiRe_readLines_53_l10] at h
    by_cases c1 : (s.2.1 53 1) < x2
    · rw [if_pos c1] at h
      have h := Option.some.inj h
      subst r
      exact ax_end 8 (And.intro (fun _ => (Exists.intro (some (.int (XTa_fault s)), s) (And.intro (e_XTa_fault (d + 4)  s) (hkr _ rfl)))) (fun q => absurd c1 q))
    · rw [if_neg c1] at h
      cases hz2 : XTa_peek s with
      | none => rw [hz2] at h; cases h
      | some v1 =>
      rw [hz2] at h
      dsimp only at h
      cases hz3 : XLiRe_readLines_53_j29 x2 (XEdRe_canBegin v1 s) s with
      | none => rw [hz3] at h; cases h
      | some z3 =>
      rw [hz3] at h
      refine ax_cut (pc' := 29) (la := [some (.ref 53), none, some (.int x2)]) [some (.ref 53), none, some (.int x2)] (st' := [.int (XEdRe_canBegin v1 s)]) (σ' := s) 9 (And.intro rfl (And.intro rfl (trivial))) (fun _ hh => (And.intro (fun q => absurd q c1) (fun _ => (Exists.intro (some (.int v1), s) (And.intro (e_XTa_peek (d + 4) hz2) (Exists.intro (some (.int (XEdRe_canBegin v1 s)), s) (And.intro (e_XEdRe_canBegin (d + 3) v1 s) hh))))))) (w_XLiRe_readLines_53_j29 d x2 (XEdRe_canBegin v1 s) s _ hz3 ?_)
      · intro s3 hq
        subst z3
        dsimp only at h
        by_cases c4 : (XTa_isFaulty s3) = 0
        · rw [if_pos c4] at h
          by_cases c5 : (XTa_isAtEnd s3) = 0
          · rw [if_pos c5] at h
            cases hz6 : XTa_take (59 : Int32) s3 with
            | none => rw [hz6] at h; cases h
            | some z6 =>
            rw [hz6] at h
            obtain ⟨v4, s5⟩ := z6
            dsimp only at h
            by_cases c7 : v4 = 0
            · rw [if_pos c7] at h
              refine ax_cut (pc' := 118) (la := [some (.ref 53), none, some (.int x2)]) [none, none, none] (st' := [.int (XTa_fault s5)]) (σ' := s5) 16 (trivial) (fun _ hh => (Exists.intro (some (.int (XTa_isFaulty s3)), s3) (And.intro (e_XTa_isFaulty (d + 4)  s3) (And.intro (fun _ => (Exists.intro (some (.int (XTa_isAtEnd s3)), s3) (And.intro (e_XTa_isAtEnd (d + 4)  s3) (And.intro (fun _ => (Exists.intro (some (.int v4), s5) (And.intro (e_XTa_take (d + 3) hz6) (And.intro (fun q => absurd c7 q) (fun _ => (Exists.intro (some (.int (XTa_fault s5)), s5) (And.intro (e_XTa_fault (d + 4)  s5) hh))))))) (fun q => absurd c5 q))))) (fun q => absurd c4 q))))) ?_
              have h := Option.some.inj h
              subst r
              exact ax_end 1 (hkr _ rfl)
            · rw [if_neg c7] at h
              exact ax_cut (pc' := 10) (la := [some (.ref 53), none, some (.int (x2 + (1)))]) [some (.ref 53), none, some (.int (x2 + (1)))] (st' := []) (σ' := s5) 15 (And.intro rfl (And.intro rfl (trivial))) (fun _ hh => (Exists.intro (some (.int (XTa_isFaulty s3)), s3) (And.intro (e_XTa_isFaulty (d + 4)  s3) (And.intro (fun _ => (Exists.intro (some (.int (XTa_isAtEnd s3)), s3) (And.intro (e_XTa_isAtEnd (d + 4)  s3) (And.intro (fun _ => (Exists.intro (some (.int v4), s5) (And.intro (e_XTa_take (d + 3) hz6) (And.intro (fun _ => hh) (fun q => absurd c7 q))))) (fun q => absurd c5 q))))) (fun q => absurd c4 q))))) (ih (x2 + (1)) s5 _ h hkr)
          · rw [if_neg c5] at h
            have h := Option.some.inj h
            subst r
            exact ax_end 12 (Exists.intro (some (.int (XTa_isFaulty s3)), s3) (And.intro (e_XTa_isFaulty (d + 4)  s3) (And.intro (fun _ => (Exists.intro (some (.int (XTa_isAtEnd s3)), s3) (And.intro (e_XTa_isAtEnd (d + 4)  s3) (And.intro (fun q => absurd q c5) (fun _ => (hkr _ rfl)))))) (fun q => absurd c4 q))))
        · rw [if_neg c4] at h
          have h := Option.some.inj h
          subst r
          exact ax_end 8 (Exists.intro (some (.int (XTa_isFaulty s3)), s3) (And.intro (e_XTa_isFaulty (d + 4)  s3) (And.intro (fun q => absurd q c4) (fun _ => (Exists.intro (some (.int (XTa_fault s3)), s3) (And.intro (e_XTa_fault (d + 4)  s3) (hkr _ rfl)))))))
theorem e_XLiRe_readLines_53 (d : Nat) {x1 : Int32} {s : ax_S} {r : Int32 × ax_S} (h : XLiRe_readLines_53 x1 s = some r) : ax_ev true (d + 6) 24 [.ref 53, .int x1] s (some (.int r.1), r.2) := by
  refine ⟨Nat.le_of_ble_eq_true rfl, ?_⟩
  show ax_go true none (ax_ev true (d + 5)) ax_m24 0 [some (.ref 53), some (.int x1), none] [] s _
  unfold XLiRe_readLines_53 at h
  cases hz1 : XLiRe_readLines_53_l10 70000 (0 : Int32) (XTa_beginText x1 s) with
  | none => rw [hz1] at h; cases h
  | some z1 =>
  rw [hz1] at h
  refine ax_cut (pc' := 10) (la := [some (.ref 53), some (.int x1), some (.int (0 : Int32))]) [some (.ref 53), none, some (.int (0 : Int32))] (st' := []) (σ' := (XTa_beginText x1 s)) 6 (And.intro rfl (And.intro rfl (trivial))) (fun _ hh => (Exists.intro (none, (XTa_beginText x1 s)) (And.intro (e_XTa_beginText (d + 4) x1 s) hh))) (w_XLiRe_readLines_53_l10 d 70000 (0 : Int32) (XTa_beginText x1 s) _ hz1 ?_)
  · intro q hq
    subst z1
    dsimp only at h
    cases h
    rfl
def XSt_copyFrom_3_25  (s : ax_S) : ax_S :=
  (ax_sI (ax_sI (ax_sA (ax_sA (ax_sA (ax_sA (XFi_copyFrom_4_26 s) 10 (va_cpy ((XFi_copyFrom_4_26 s).2.1 32) ((XFi_copyFrom_4_26 s).2.1 10) 0 0 16)) 11 (va_cpy ((XFi_copyFrom_4_26 s).2.1 33) ((XFi_copyFrom_4_26 s).2.1 11) 0 0 16)) 12 (va_cpy ((XFi_copyFrom_4_26 s).2.1 34) ((XFi_copyFrom_4_26 s).2.1 12) 0 0 16)) 13 (va_cpy ((XFi_copyFrom_4_26 s).2.1 35) ((XFi_copyFrom_4_26 s).2.1 13) 0 0 180)) 3 5 ((XFi_copyFrom_4_26 s).2.1 25 5)) 3 6 ((XFi_copyFrom_4_26 s).2.1 25 6))
theorem e_XSt_copyFrom_3_25 (d : Nat)  (s : ax_S) : ax_ev true (d + 2) 71 [.ref 3, .ref 25] s (none, (XSt_copyFrom_3_25 s)) := by
  refine ⟨Nat.le_of_ble_eq_true rfl, ?_⟩
  generalize h : XSt_copyFrom_3_25 s = r
  show ax_go true none (ax_ev true (d + 1)) ax_m71 0 [some (.ref 3), some (.ref 25)] [] s _
  unfold XSt_copyFrom_3_25 at h
  refine ax_cut (pc' := 31) (la := [some (.ref 3), some (.ref 25)]) [some (.ref 3), some (.ref 25)] (st' := [.int (0 : Int32), .ref 33]) (σ' := (ax_sA (XFi_copyFrom_4_26 s) 10 (va_cpy ((XFi_copyFrom_4_26 s).2.1 32) ((XFi_copyFrom_4_26 s).2.1 10) 0 0 16))) 16 (And.intro rfl (And.intro rfl (trivial))) (fun _ hh => (Exists.intro (none, (XFi_copyFrom_4_26 s)) (And.intro (e_XFi_copyFrom_4_26 d  s) (And.intro (show ¬ (0 : Int32) < 0 by decide) (And.intro (show ¬ (0 : Int32) < 0 by decide) (And.intro (show ¬ (16 : Int32) < 0 by decide) (And.intro (by decide) (And.intro (by decide) hh)))))))) ?_
  refine ax_cut (pc' := 61) (la := [some (.ref 3), some (.ref 25)]) [some (.ref 3), some (.ref 25)] (st' := [.int (0 : Int32), .ref 35]) (σ' := (ax_sA (ax_sA (ax_sA (XFi_copyFrom_4_26 s) 10 (va_cpy ((XFi_copyFrom_4_26 s).2.1 32) ((XFi_copyFrom_4_26 s).2.1 10) 0 0 16)) 11 (va_cpy ((XFi_copyFrom_4_26 s).2.1 33) ((XFi_copyFrom_4_26 s).2.1 11) 0 0 16)) 12 (va_cpy ((XFi_copyFrom_4_26 s).2.1 34) ((XFi_copyFrom_4_26 s).2.1 12) 0 0 16))) 16 (And.intro rfl (And.intro rfl (trivial))) (fun _ hh => (And.intro (show ¬ (0 : Int32) < 0 by decide) (And.intro (show ¬ (0 : Int32) < 0 by decide) (And.intro (show ¬ (16 : Int32) < 0 by decide) (And.intro (by decide) (And.intro (by decide) (And.intro (show ¬ (0 : Int32) < 0 by decide) (And.intro (show ¬ (0 : Int32) < 0 by decide) (And.intro (show ¬ (16 : Int32) < 0 by decide) (And.intro (by decide) (And.intro (by decide) hh))))))))))) ?_
  have h := h
  subst r
  exact ax_end 14 (And.intro (show ¬ (0 : Int32) < 0 by decide) (And.intro (show ¬ (0 : Int32) < 0 by decide) (And.intro (show ¬ (180 : Int32) < 0 by decide) (And.intro (by decide) (And.intro (by decide) rfl)))))
def X_edits (x1 : Int32)  (s : ax_S) : Option (Int32 × ax_S) :=
  if (X_isWithin x1 (1 : Int32) (120 : Int32) s) = 0 then (
    some ((-1 : Int32), s)) else
  if (XTa_holds x1 s) = 0 then (
    some ((-1 : Int32), s)) else
  match XLiRe_readLines_53 x1 (XSt_copyFrom_25_3 s) with
  | none => none
  | some (v1, s2) =>
    if v1 ≤ 0 then (
      some (v1, (XTa_clear s2))) else
    some (v1, (XSt_copyFrom_3_25 (XTa_clear s2)))
theorem e_X_edits (d : Nat) {x1 : Int32} {s : ax_S} {r : Int32 × ax_S} (h : X_edits x1 s = some r) : ax_ev true (d + 7) 70 [.ref 0, .int x1] s (some (.int r.1), r.2) := by
  refine ⟨Nat.le_of_ble_eq_true rfl, ?_⟩
  show ax_go true none (ax_ev true (d + 6)) ax_m70 0 [some (.ref 0), some (.int x1), none] [] s _
  unfold X_edits at h
  by_cases c1 : (X_isWithin x1 (1 : Int32) (120 : Int32) s) = 0
  · rw [if_pos c1] at h
    have h := Option.some.inj h
    subst r
    exact ax_end 7 (Exists.intro (some (.int (X_isWithin x1 (1 : Int32) (120 : Int32) s)), s) (And.intro (e_X_isWithin (d + 5) x1 (1 : Int32) (120 : Int32) s) (And.intro (fun _ => rfl) (fun q => absurd c1 q))))
  · rw [if_neg c1] at h
    by_cases c2 : (XTa_holds x1 s) = 0
    · rw [if_pos c2] at h
      have h := Option.some.inj h
      subst r
      exact ax_end 12 (Exists.intro (some (.int (X_isWithin x1 (1 : Int32) (120 : Int32) s)), s) (And.intro (e_X_isWithin (d + 5) x1 (1 : Int32) (120 : Int32) s) (And.intro (fun q => absurd q c1) (fun _ => (Exists.intro (some (.int (XTa_holds x1 s)), s) (And.intro (e_XTa_holds (d + 5) x1 s) (And.intro (fun q => absurd c2 q) (fun _ => rfl))))))))
    · rw [if_neg c2] at h
      refine ax_cut (pc' := 35) (la := [some (.ref 0), some (.int x1), none]) [some (.ref 0), some (.int x1), none] (st' := [.ref 0]) (σ' := (XSt_copyFrom_25_3 s)) 16 (And.intro rfl (And.intro rfl (trivial))) (fun _ hh => (Exists.intro (some (.int (X_isWithin x1 (1 : Int32) (120 : Int32) s)), s) (And.intro (e_X_isWithin (d + 5) x1 (1 : Int32) (120 : Int32) s) (And.intro (fun q => absurd q c1) (fun _ => (Exists.intro (some (.int (XTa_holds x1 s)), s) (And.intro (e_XTa_holds (d + 5) x1 s) (And.intro (fun _ => (Exists.intro (none, (XSt_copyFrom_25_3 s)) (And.intro (e_XSt_copyFrom_25_3 (d + 4)  s) hh))) (fun q => absurd c2 q))))))))) ?_
      cases hz3 : XLiRe_readLines_53 x1 (XSt_copyFrom_25_3 s) with
      | none => rw [hz3] at h; cases h
      | some z3 =>
      rw [hz3] at h
      obtain ⟨v1, s2⟩ := z3
      dsimp only at h
      by_cases c4 : v1 ≤ 0
      · rw [if_pos c4] at h
        have h := Option.some.inj h
        subst r
        exact ax_end 11 (Exists.intro (some (.int v1), s2) (And.intro (e_XLiRe_readLines_53 d hz3) (Exists.intro (none, (XTa_clear s2)) (And.intro (e_XTa_clear (d + 5)  s2) (And.intro (fun _ => rfl) (fun q => absurd c4 q))))))
      · rw [if_neg c4] at h
        have h := Option.some.inj h
        subst r
        exact ax_end 16 (Exists.intro (some (.int v1), s2) (And.intro (e_XLiRe_readLines_53 d hz3) (Exists.intro (none, (XTa_clear s2)) (And.intro (e_XTa_clear (d + 5)  s2) (And.intro (fun q => absurd q c4) (fun _ => (Exists.intro (none, (XSt_copyFrom_3_25 (XTa_clear s2))) (And.intro (e_XSt_copyFrom_3_25 (d + 4)  (XTa_clear s2)) rfl))))))))
def M_min (x0 : Int32) (x1 : Int32)  (s : ax_S) : Int32 :=
  if x1 ≤ x0 then (
    x1) else
  x0
theorem e_M_min (d : Nat) (x0 : Int32) (x1 : Int32) (s : ax_S) : ax_ev true (d + 1) 215 [.int x0, .int x1] s (some (.int (M_min x0 x1 s)), s) := by
  refine ⟨Nat.le_of_ble_eq_true rfl, ?_⟩
  generalize h : M_min x0 x1 s = r
  show ax_go true none (ax_ev true (d + 0)) ax_m215 0 [some (.int x0), some (.int x1)] [] s _
  unfold M_min at h
  by_cases c1 : x1 ≤ x0
  · rw [if_pos c1] at h
    have h := h
    subst r
    exact ax_end 5 (And.intro (fun _ => rfl) (fun q => absurd c1 q))
  · rw [if_neg c1] at h
    have h := h
    subst r
    exact ax_end 6 (And.intro (fun q => absurd q c1) (fun _ => rfl))
def M_max (x0 : Int32) (x1 : Int32)  (s : ax_S) : Int32 :=
  if x0 ≤ x1 then (
    x1) else
  x0
theorem e_M_max (d : Nat) (x0 : Int32) (x1 : Int32) (s : ax_S) : ax_ev true (d + 1) 214 [.int x0, .int x1] s (some (.int (M_max x0 x1 s)), s) := by
  refine ⟨Nat.le_of_ble_eq_true rfl, ?_⟩
  generalize h : M_max x0 x1 s = r
  show ax_go true none (ax_ev true (d + 0)) ax_m214 0 [some (.int x0), some (.int x1)] [] s _
  unfold M_max at h
  by_cases c1 : x0 ≤ x1
  · rw [if_pos c1] at h
    have h := h
    subst r
    exact ax_end 5 (And.intro (fun _ => rfl) (fun q => absurd c1 q))
  · rw [if_neg c1] at h
    have h := h
    subst r
    exact ax_end 6 (And.intro (fun q => absurd q c1) (fun _ => rfl))
def M_readsPain_j79 (y1 : Int32) (y4 : Int32) (y5 : Int32)  (s : ax_S) : Int32 :=
  if y5 = (43 : Int32) then (
    (s.2.1 63 9)) else
  (-(s.2.1 63 9))
def M_readsPain_j79_1 (y1 : Int32) (y4 : Int32) (y5 : Int32)  (s : ax_S) : Int32 :=
  if y5 = (43 : Int32) then (
    (s.2.1 63 9)) else
  (-(s.2.1 63 9))
def M_readsPain (x1 : Int32)  (s : ax_S) : Option (Int32 × ax_S) :=
  match M_here (ax_sI s 63 6 ((s.2.1 63 6) + (1 : Int32))) with
  | none => none
  | some v1 =>
    if v1 = (43 : Int32) then (
      match M_readsAmount (ax_sI (ax_sI s 63 6 ((s.2.1 63 6) + (1 : Int32))) 63 6 (((s.2.1 63 6) + (1 : Int32)) + (1 : Int32))) with
      | none => none
      | some (v2, s3) =>
        if v2 = 0 then (
          some ((0 : Int32), s3)) else
        if (((60 : Int32) + x1) < 0 ∨ 291 ≤ (((60 : Int32) + x1)).toNatClampNeg) then none else
        if (((60 : Int32) + x1) < 0 ∨ 291 ≤ (((60 : Int32) + x1)).toNatClampNeg) then none else
        some ((1 : Int32), (ax_sI s3 64 (((60 : Int32) + x1)).toNatClampNeg (M_max (0 : Int32) (M_min (99 : Int32) ((s3.2.1 64 (((60 : Int32) + x1)).toNatClampNeg) + (M_readsPain_j79 ((60 : Int32) + x1) (s3.2.1 64 (((60 : Int32) + x1)).toNatClampNeg) v1 s3)) s3) s3)))) else
    if v1 = (45 : Int32) then (
      match M_readsAmount (ax_sI (ax_sI s 63 6 ((s.2.1 63 6) + (1 : Int32))) 63 6 (((s.2.1 63 6) + (1 : Int32)) + (1 : Int32))) with
      | none => none
      | some (v5, s6) =>
        if v5 = 0 then (
          some ((0 : Int32), s6)) else
        if (((60 : Int32) + x1) < 0 ∨ 291 ≤ (((60 : Int32) + x1)).toNatClampNeg) then none else
        if (((60 : Int32) + x1) < 0 ∨ 291 ≤ (((60 : Int32) + x1)).toNatClampNeg) then none else
        some ((1 : Int32), (ax_sI s6 64 (((60 : Int32) + x1)).toNatClampNeg (M_max (0 : Int32) (M_min (99 : Int32) ((s6.2.1 64 (((60 : Int32) + x1)).toNatClampNeg) + (M_readsPain_j79_1 ((60 : Int32) + x1) (s6.2.1 64 (((60 : Int32) + x1)).toNatClampNeg) v1 s6)) s6) s6)))) else
    some ((M_wrongAt (1 : Int32) ((s.2.1 63 6) + (1 : Int32)) (ax_sI s 63 6 ((s.2.1 63 6) + (1 : Int32)))).1, (M_wrongAt (1 : Int32) ((s.2.1 63 6) + (1 : Int32)) (ax_sI s 63 6 ((s.2.1 63 6) + (1 : Int32)))).2)
theorem w_M_readsPain_j79 (d : Nat) {o : ax_O} (y1 : Int32) (y4 : Int32) (y5 : Int32) (s : ax_S) (r : Int32) (h : M_readsPain_j79 y1 y4 y5 s = r) (hk0 : ∀ (t0 : Int32), r = t0 → ax_go true none (ax_ev true (d + 3)) ax_m216 94 [none, none, none] [.int t0, .int y4, .int (99 : Int32), .int (0 : Int32), .int y1, .ref 64] s o) : ax_go true none (ax_ev true (d + 3)) ax_m216 79 [some (.ref 63), none, none] [.int (43 : Int32), .int y5, .int y4, .int (99 : Int32), .int (0 : Int32), .int y1, .ref 64] s o := by
  unfold M_readsPain_j79 at h
  by_cases c1 : y5 = (43 : Int32)
  · rw [if_pos c1] at h
    have h := h
    subst r
    exact ax_cut (pc' := 94) (la := [some (.ref 63), none, none]) [none, none, none] (st' := [.int (s.2.1 63 9), .int y4, .int (99 : Int32), .int (0 : Int32), .int y1, .ref 64]) (σ' := s) 4 (trivial) (fun _ hh => (And.intro (fun q => absurd c1 q) (fun _ => hh))) (hk0 _ rfl)
  · rw [if_neg c1] at h
    have h := h
    subst r
    exact ax_cut (pc' := 94) (la := [some (.ref 63), none, none]) [none, none, none] (st' := [.int (-(s.2.1 63 9)), .int y4, .int (99 : Int32), .int (0 : Int32), .int y1, .ref 64]) (σ' := s) 4 (trivial) (fun _ hh => (And.intro (fun _ => hh) (fun q => absurd c1 q))) (hk0 _ rfl)
theorem w_M_readsPain_j79_1 (d : Nat) {o : ax_O} (y1 : Int32) (y4 : Int32) (y5 : Int32) (s : ax_S) (r : Int32) (h : M_readsPain_j79_1 y1 y4 y5 s = r) (hk0 : ∀ (t0 : Int32), r = t0 → ax_go true none (ax_ev true (d + 3)) ax_m216 94 [none, none, none] [.int t0, .int y4, .int (99 : Int32), .int (0 : Int32), .int y1, .ref 64] s o) : ax_go true none (ax_ev true (d + 3)) ax_m216 79 [some (.ref 63), none, none] [.int (43 : Int32), .int y5, .int y4, .int (99 : Int32), .int (0 : Int32), .int y1, .ref 64] s o := by
  unfold M_readsPain_j79_1 at h
  by_cases c1 : y5 = (43 : Int32)
  · rw [if_pos c1] at h
    have h := h
    subst r
    exact ax_cut (pc' := 94) (la := [some (.ref 63), none, none]) [none, none, none] (st' := [.int (s.2.1 63 9), .int y4, .int (99 : Int32), .int (0 : Int32), .int y1, .ref 64]) (σ' := s) 4 (trivial) (fun _ hh => (And.intro (fun q => absurd c1 q) (fun _ => hh))) (hk0 _ rfl)
  · rw [if_neg c1] at h
    have h := h
    subst r
    exact ax_cut (pc' := 94) (la := [some (.ref 63), none, none]) [none, none, none] (st' := [.int (-(s.2.1 63 9)), .int y4, .int (99 : Int32), .int (0 : Int32), .int y1, .ref 64]) (σ' := s) 4 (trivial) (fun _ hh => (And.intro (fun _ => hh) (fun q => absurd c1 q))) (hk0 _ rfl)
theorem e_M_readsPain (d : Nat) {x1 : Int32} {s : ax_S} {r : Int32 × ax_S} (h : M_readsPain x1 s = some r) : ax_ev true (d + 4) 216 [.ref 63, .int x1] s (some (.int r.1), r.2) := by
  refine ⟨Nat.le_of_ble_eq_true rfl, ?_⟩
  show ax_go true none (ax_ev true (d + 3)) ax_m216 0 [some (.ref 63), some (.int x1), none] [] s _
  unfold M_readsPain at h
  cases hz1 : M_here (ax_sI s 63 6 ((s.2.1 63 6) + (1 : Int32))) with
  | none => rw [hz1] at h; cases h
  | some v1 =>
  rw [hz1] at h
  dsimp only at h
  by_cases c2 : v1 = (43 : Int32)
  · rw [if_pos c2] at h
    refine ax_cut (pc' := 43) (la := [some (.ref 63), some (.int x1), some (.int v1)]) [some (.ref 63), some (.int x1), some (.int v1)] (st' := [.int (1 : Int32), .int ((s.2.1 63 6) + (1 : Int32)), .ref 63]) (σ' := (ax_sI s 63 6 ((s.2.1 63 6) + (1 : Int32)))) 16 (And.intro rfl (And.intro rfl (And.intro rfl (trivial)))) (fun _ hh => (Exists.intro (some (.int v1), (ax_sI s 63 6 ((s.2.1 63 6) + (1 : Int32)))) (And.intro (e_M_here (d + 2) hz1) (And.intro (fun _ => hh) (fun q => absurd c2 q))))) ?_
    cases hz3 : M_readsAmount (ax_sI (ax_sI s 63 6 ((s.2.1 63 6) + (1 : Int32))) 63 6 (((s.2.1 63 6) + (1 : Int32)) + (1 : Int32))) with
    | none => rw [hz3] at h; cases h
    | some z3 =>
    rw [hz3] at h
    obtain ⟨v2, s3⟩ := z3
    dsimp only at h
    by_cases c4 : v2 = 0
    · rw [if_pos c4] at h
      have h := Option.some.inj h
      subst r
      exact ax_end 7 (Exists.intro (some (.int v2), s3) (And.intro (e_M_readsAmount d hz3) (And.intro (fun q => absurd c4 q) (fun _ => (And.intro (Or.inl rfl) rfl)))))
    · rw [if_neg c4] at h
      refine ax_cut (pc' := 74) (la := [some (.ref 63), some (.int x1), some (.int v1)]) [some (.ref 63), none, some (.int v1)] (st' := [.int x1, .int (60 : Int32), .ref 64, .int (99 : Int32), .int (0 : Int32), .int ((60 : Int32) + x1), .ref 64]) (σ' := s3) 16 (And.intro rfl (And.intro rfl (trivial))) (fun _ hh => (Exists.intro (some (.int v2), s3) (And.intro (e_M_readsAmount d hz3) (And.intro (fun _ => hh) (fun q => absurd c4 q))))) ?_
      by_cases c5 : (((60 : Int32) + x1) < 0 ∨ 291 ≤ (((60 : Int32) + x1)).toNatClampNeg)
      · rw [if_pos c5] at h; cases h
      · rw [if_neg c5] at h
        refine ax_cut (pc' := 79) (la := [some (.ref 63), none, some (.int v1)]) [some (.ref 63), none, none] (st' := [.int (43 : Int32), .int v1, .int (s3.2.1 64 (((60 : Int32) + x1)).toNatClampNeg), .int (99 : Int32), .int (0 : Int32), .int ((60 : Int32) + x1), .ref 64]) (σ' := s3) 4 (And.intro rfl (trivial)) (fun _ hh => (And.intro c5 hh)) (w_M_readsPain_j79 d ((60 : Int32) + x1) (s3.2.1 64 (((60 : Int32) + x1)).toNatClampNeg) v1 s3 _ rfl (fun v4 hq => ?_))
        obtain rfl : v4 = (M_readsPain_j79 ((60 : Int32) + x1) (s3.2.1 64 (((60 : Int32) + x1)).toNatClampNeg) v1 s3) := hq.symm
        by_cases c6 : (((60 : Int32) + x1) < 0 ∨ 291 ≤ (((60 : Int32) + x1)).toNatClampNeg)
        · rw [if_pos c6] at h; cases h
        · rw [if_neg c6] at h
          have h := Option.some.inj h
          subst r
          exact ax_end 6 (Exists.intro (some (.int (M_min (99 : Int32) ((s3.2.1 64 (((60 : Int32) + x1)).toNatClampNeg) + (M_readsPain_j79 ((60 : Int32) + x1) (s3.2.1 64 (((60 : Int32) + x1)).toNatClampNeg) v1 s3)) s3)), s3) (And.intro (e_M_min (d + 2) (99 : Int32) ((s3.2.1 64 (((60 : Int32) + x1)).toNatClampNeg) + (M_readsPain_j79 ((60 : Int32) + x1) (s3.2.1 64 (((60 : Int32) + x1)).toNatClampNeg) v1 s3)) s3) (Exists.intro (some (.int (M_max (0 : Int32) (M_min (99 : Int32) ((s3.2.1 64 (((60 : Int32) + x1)).toNatClampNeg) + (M_readsPain_j79 ((60 : Int32) + x1) (s3.2.1 64 (((60 : Int32) + x1)).toNatClampNeg) v1 s3)) s3) s3)), s3) (And.intro (e_M_max (d + 2) (0 : Int32) (M_min (99 : Int32) ((s3.2.1 64 (((60 : Int32) + x1)).toNatClampNeg) + (M_readsPain_j79 ((60 : Int32) + x1) (s3.2.1 64 (((60 : Int32) + x1)).toNatClampNeg) v1 s3)) s3) s3) (And.intro c6 (And.intro (Or.inr rfl) rfl))))))
  · rw [if_neg c2] at h
    by_cases c7 : v1 = (45 : Int32)
    · rw [if_pos c7] at h
      refine ax_cut (pc' := 38) (la := [some (.ref 63), some (.int x1), some (.int v1)]) [some (.ref 63), some (.int x1), some (.int v1)] (st' := [.ref 63]) (σ' := (ax_sI s 63 6 ((s.2.1 63 6) + (1 : Int32)))) 16 (And.intro rfl (And.intro rfl (And.intro rfl (trivial)))) (fun _ hh => (Exists.intro (some (.int v1), (ax_sI s 63 6 ((s.2.1 63 6) + (1 : Int32)))) (And.intro (e_M_here (d + 2) hz1) (And.intro (fun q => absurd q c2) (fun _ => (And.intro (fun _ => hh) (fun q => absurd c7 q))))))) ?_
      cases hz8 : M_readsAmount (ax_sI (ax_sI s 63 6 ((s.2.1 63 6) + (1 : Int32))) 63 6 (((s.2.1 63 6) + (1 : Int32)) + (1 : Int32))) with
      | none => rw [hz8] at h; cases h
      | some z8 =>
      rw [hz8] at h
      obtain ⟨v5, s6⟩ := z8
      dsimp only at h
      by_cases c9 : v5 = 0
      · rw [if_pos c9] at h
        have h := Option.some.inj h
        subst r
        exact ax_end 10 (Exists.intro (some (.int v5), s6) (And.intro (e_M_readsAmount d hz8) (And.intro (fun q => absurd c9 q) (fun _ => (And.intro (Or.inl rfl) rfl)))))
      · rw [if_neg c9] at h
        refine ax_cut (pc' := 68) (la := [some (.ref 63), some (.int x1), some (.int v1)]) [some (.ref 63), some (.int x1), some (.int v1)] (st' := [.ref 63, .int (99 : Int32), .int (0 : Int32), .int ((60 : Int32) + x1), .ref 64]) (σ' := s6) 16 (And.intro rfl (And.intro rfl (And.intro rfl (trivial)))) (fun _ hh => (Exists.intro (some (.int v5), s6) (And.intro (e_M_readsAmount d hz8) (And.intro (fun _ => hh) (fun q => absurd c9 q))))) ?_
        by_cases c10 : (((60 : Int32) + x1) < 0 ∨ 291 ≤ (((60 : Int32) + x1)).toNatClampNeg)
        · rw [if_pos c10] at h; cases h
        · rw [if_neg c10] at h
          refine ax_cut (pc' := 79) (la := [some (.ref 63), some (.int x1), some (.int v1)]) [some (.ref 63), none, none] (st' := [.int (43 : Int32), .int v1, .int (s6.2.1 64 (((60 : Int32) + x1)).toNatClampNeg), .int (99 : Int32), .int (0 : Int32), .int ((60 : Int32) + x1), .ref 64]) (σ' := s6) 7 (And.intro rfl (trivial)) (fun _ hh => (And.intro c10 hh)) (w_M_readsPain_j79_1 d ((60 : Int32) + x1) (s6.2.1 64 (((60 : Int32) + x1)).toNatClampNeg) v1 s6 _ rfl (fun v7 hq => ?_))
          obtain rfl : v7 = (M_readsPain_j79_1 ((60 : Int32) + x1) (s6.2.1 64 (((60 : Int32) + x1)).toNatClampNeg) v1 s6) := hq.symm
          by_cases c11 : (((60 : Int32) + x1) < 0 ∨ 291 ≤ (((60 : Int32) + x1)).toNatClampNeg)
          · rw [if_pos c11] at h; cases h
          · rw [if_neg c11] at h
            have h := Option.some.inj h
            subst r
            exact ax_end 6 (Exists.intro (some (.int (M_min (99 : Int32) ((s6.2.1 64 (((60 : Int32) + x1)).toNatClampNeg) + (M_readsPain_j79_1 ((60 : Int32) + x1) (s6.2.1 64 (((60 : Int32) + x1)).toNatClampNeg) v1 s6)) s6)), s6) (And.intro (e_M_min (d + 2) (99 : Int32) ((s6.2.1 64 (((60 : Int32) + x1)).toNatClampNeg) + (M_readsPain_j79_1 ((60 : Int32) + x1) (s6.2.1 64 (((60 : Int32) + x1)).toNatClampNeg) v1 s6)) s6) (Exists.intro (some (.int (M_max (0 : Int32) (M_min (99 : Int32) ((s6.2.1 64 (((60 : Int32) + x1)).toNatClampNeg) + (M_readsPain_j79_1 ((60 : Int32) + x1) (s6.2.1 64 (((60 : Int32) + x1)).toNatClampNeg) v1 s6)) s6) s6)), s6) (And.intro (e_M_max (d + 2) (0 : Int32) (M_min (99 : Int32) ((s6.2.1 64 (((60 : Int32) + x1)).toNatClampNeg) + (M_readsPain_j79_1 ((60 : Int32) + x1) (s6.2.1 64 (((60 : Int32) + x1)).toNatClampNeg) v1 s6)) s6) s6) (And.intro c11 (And.intro (Or.inr rfl) rfl))))))
    · rw [if_neg c7] at h
      refine ax_cut (pc' := 28) (la := [some (.ref 63), some (.int x1), some (.int v1)]) [some (.ref 63), none, none] (st' := [.ref 63]) (σ' := (ax_sI s 63 6 ((s.2.1 63 6) + (1 : Int32)))) 16 (And.intro rfl (trivial)) (fun _ hh => (Exists.intro (some (.int v1), (ax_sI s 63 6 ((s.2.1 63 6) + (1 : Int32)))) (And.intro (e_M_here (d + 2) hz1) (And.intro (fun q => absurd q c2) (fun _ => (And.intro (fun q => absurd q c7) (fun _ => hh))))))) ?_
      have h := Option.some.inj h
      subst r
      exact ax_end 5 (Exists.intro (some (.int (M_wrongAt (1 : Int32) ((s.2.1 63 6) + (1 : Int32)) (ax_sI s 63 6 ((s.2.1 63 6) + (1 : Int32)))).1), (M_wrongAt (1 : Int32) ((s.2.1 63 6) + (1 : Int32)) (ax_sI s 63 6 ((s.2.1 63 6) + (1 : Int32)))).2) (And.intro (e_M_wrongAt (d + 2) (1 : Int32) ((s.2.1 63 6) + (1 : Int32)) (ax_sI s 63 6 ((s.2.1 63 6) + (1 : Int32)))) (And.intro (ax_ev_bool rfl (e_M_wrongAt (d + 2) (1 : Int32) ((s.2.1 63 6) + (1 : Int32)) (ax_sI s 63 6 ((s.2.1 63 6) + (1 : Int32))))) rfl)))
def M_isFigure (x1 : Int32)  (s : ax_S) : Option (Int32) :=
  if (M_in x1 (0 : Int32) (11 : Int32) s) = 0 then (
    some (0 : Int32)) else
  if (((0 : Int32) + x1) < 0 ∨ 291 ≤ (((0 : Int32) + x1)).toNatClampNeg) then none else
  if (s.2.1 64 (((0 : Int32) + x1)).toNatClampNeg) = (-1 : Int32) then (
    some (0 : Int32)) else
  some (1 : Int32)
theorem e_M_isFigure (d : Nat) {x1 : Int32} {s : ax_S} {r : Int32} (h : M_isFigure x1 s = some r) : ax_ev true (d + 2) 213 [.ref 63, .int x1] s (some (.int r), s) := by
  refine ⟨Nat.le_of_ble_eq_true rfl, ?_⟩
  show ax_go true none (ax_ev true (d + 1)) ax_m213 0 [some (.ref 63), some (.int x1)] [] s _
  unfold M_isFigure at h
  by_cases c1 : (M_in x1 (0 : Int32) (11 : Int32) s) = 0
  · rw [if_pos c1] at h
    have h := Option.some.inj h
    subst r
    exact ax_end 7 (Exists.intro (some (.int (M_in x1 (0 : Int32) (11 : Int32) s)), s) (And.intro (e_M_in d x1 (0 : Int32) (11 : Int32) s) (And.intro (fun _ => (And.intro (Or.inl rfl) rfl)) (fun q => absurd c1 q))))
  · rw [if_neg c1] at h
    by_cases c2 : (((0 : Int32) + x1) < 0 ∨ 291 ≤ (((0 : Int32) + x1)).toNatClampNeg)
    · rw [if_pos c2] at h; cases h
    · rw [if_neg c2] at h
      by_cases c3 : (s.2.1 64 (((0 : Int32) + x1)).toNatClampNeg) = (-1 : Int32)
      · rw [if_pos c3] at h
        have h := Option.some.inj h
        subst r
        exact ax_end 15 (Exists.intro (some (.int (M_in x1 (0 : Int32) (11 : Int32) s)), s) (And.intro (e_M_in d x1 (0 : Int32) (11 : Int32) s) (And.intro (fun q => absurd q c1) (fun _ => (And.intro c2 (And.intro (fun _ => (And.intro (Or.inl rfl) rfl)) (fun q => absurd c3 q)))))))
      · rw [if_neg c3] at h
        have h := Option.some.inj h
        subst r
        exact ax_end 16 (Exists.intro (some (.int (M_in x1 (0 : Int32) (11 : Int32) s)), s) (And.intro (e_M_in d x1 (0 : Int32) (11 : Int32) s) (And.intro (fun q => absurd q c1) (fun _ => (And.intro c2 (And.intro (fun q => absurd q c3) (fun _ => (And.intro (Or.inr rfl) rfl))))))))
def M_readsMove  (s : ax_S) : Option (Int32 × ax_S) :=
  match M_readsAmount (ax_sI s 63 6 ((s.2.1 63 6) + (1 : Int32))) with
  | none => none
  | some (v1, s2) =>
    if v1 = 0 then (
      some ((0 : Int32), s2)) else
    match M_isFigure (s2.2.1 63 9) s2 with
    | none => none
    | some v3 =>
      if v3 = 0 then (
        some ((M_wrongAt (7 : Int32) ((s.2.1 63 6) + (1 : Int32)) s2).1, (M_wrongAt (7 : Int32) ((s.2.1 63 6) + (1 : Int32)) s2).2)) else
      match M_here s2 with
      | none => none
      | some v4 =>
        if v4 = (33) then (
          if (((0 : Int32) + (s2.2.1 63 9)) < 0 ∨ 291 ≤ (((0 : Int32) + (s2.2.1 63 9))).toNatClampNeg) then none else
          some ((1 : Int32), (ax_sI (ax_sI s2 64 (((0 : Int32) + (s2.2.1 63 9))).toNatClampNeg (-1 : Int32)) 63 6 ((s2.2.1 63 6) + (1 : Int32))))) else
        if v4 = (60) then (
          if (((12 : Int32) + (s2.2.1 63 9)) < 0 ∨ 291 ≤ (((12 : Int32) + (s2.2.1 63 9))).toNatClampNeg) then none else
          if (((12 : Int32) + (s2.2.1 63 9)) < 0 ∨ 291 ≤ (((12 : Int32) + (s2.2.1 63 9))).toNatClampNeg) then none else
          some ((1 : Int32), (ax_sI (ax_sI s2 64 (((12 : Int32) + (s2.2.1 63 9))).toNatClampNeg (M_max (0 : Int32) ((s2.2.1 64 (((12 : Int32) + (s2.2.1 63 9))).toNatClampNeg) - (1 : Int32)) s2)) 63 6 ((s2.2.1 63 6) + (1 : Int32))))) else
        if v4 = (62) then (
          if (((36 : Int32) + (s2.2.1 63 9)) < 0 ∨ 291 ≤ (((36 : Int32) + (s2.2.1 63 9))).toNatClampNeg) then none else
          if (((12 : Int32) + (s2.2.1 63 9)) < 0 ∨ 291 ≤ (((12 : Int32) + (s2.2.1 63 9))).toNatClampNeg) then none else
          if (((12 : Int32) + (s2.2.1 63 9)) < 0 ∨ 291 ≤ (((12 : Int32) + (s2.2.1 63 9))).toNatClampNeg) then none else
          some ((1 : Int32), (ax_sI (ax_sI s2 64 (((12 : Int32) + (s2.2.1 63 9))).toNatClampNeg (M_min ((16 : Int32) - (s2.2.1 64 (((36 : Int32) + (s2.2.1 63 9))).toNatClampNeg)) ((s2.2.1 64 (((12 : Int32) + (s2.2.1 63 9))).toNatClampNeg) + (1 : Int32)) s2)) 63 6 ((s2.2.1 63 6) + (1 : Int32))))) else
        if v4 = (94) then (
          if (((24 : Int32) + (s2.2.1 63 9)) < 0 ∨ 291 ≤ (((24 : Int32) + (s2.2.1 63 9))).toNatClampNeg) then none else
          if (((24 : Int32) + (s2.2.1 63 9)) < 0 ∨ 291 ≤ (((24 : Int32) + (s2.2.1 63 9))).toNatClampNeg) then none else
          some ((1 : Int32), (ax_sI (ax_sI s2 64 (((24 : Int32) + (s2.2.1 63 9))).toNatClampNeg (M_max (0 : Int32) ((s2.2.1 64 (((24 : Int32) + (s2.2.1 63 9))).toNatClampNeg) - (1 : Int32)) s2)) 63 6 ((s2.2.1 63 6) + (1 : Int32))))) else
        if v4 = (95) then (
          if (((48 : Int32) + (s2.2.1 63 9)) < 0 ∨ 291 ≤ (((48 : Int32) + (s2.2.1 63 9))).toNatClampNeg) then none else
          if (((24 : Int32) + (s2.2.1 63 9)) < 0 ∨ 291 ≤ (((24 : Int32) + (s2.2.1 63 9))).toNatClampNeg) then none else
          if (((24 : Int32) + (s2.2.1 63 9)) < 0 ∨ 291 ≤ (((24 : Int32) + (s2.2.1 63 9))).toNatClampNeg) then none else
          some ((1 : Int32), (ax_sI (ax_sI s2 64 (((24 : Int32) + (s2.2.1 63 9))).toNatClampNeg (M_min ((12 : Int32) - (s2.2.1 64 (((48 : Int32) + (s2.2.1 63 9))).toNatClampNeg)) ((s2.2.1 64 (((24 : Int32) + (s2.2.1 63 9))).toNatClampNeg) + (1 : Int32)) s2)) 63 6 ((s2.2.1 63 6) + (1 : Int32))))) else
        some ((M_wrongAt (1 : Int32) (s2.2.1 63 6) s2).1, (M_wrongAt (1 : Int32) (s2.2.1 63 6) s2).2)
theorem e_M_readsMove (d : Nat)  {s : ax_S} {r : Int32 × ax_S} (h : M_readsMove s = some r) : ax_ev true (d + 4) 212 [.ref 63] s (some (.int r.1), r.2) := by
  refine ⟨Nat.le_of_ble_eq_true rfl, ?_⟩
  show ax_go true none (ax_ev true (d + 3)) ax_m212 0 [some (.ref 63), none, none] [] s _
  unfold M_readsMove at h
  cases hz1 : M_readsAmount (ax_sI s 63 6 ((s.2.1 63 6) + (1 : Int32))) with
  | none => rw [hz1] at h; cases h
  | some z1 =>
  rw [hz1] at h
  obtain ⟨v1, s2⟩ := z1
  dsimp only at h
  by_cases c2 : v1 = 0
  · rw [if_pos c2] at h
    have h := Option.some.inj h
    subst r
    exact ax_end 14 (Exists.intro (some (.int v1), s2) (And.intro (e_M_readsAmount d hz1) (And.intro (fun q => absurd c2 q) (fun _ => (And.intro (Or.inl rfl) rfl)))))
  · rw [if_neg c2] at h
    refine ax_cut (pc' := 30) (la := [some (.ref 63), some (.int ((s.2.1 63 6) + (1 : Int32))), some (.int (s2.2.1 63 9))]) [some (.ref 63), some (.int ((s.2.1 63 6) + (1 : Int32))), some (.int (s2.2.1 63 9))] (st' := [.ref 63]) (σ' := s2) 16 (And.intro rfl (And.intro rfl (And.intro rfl (trivial)))) (fun _ hh => (Exists.intro (some (.int v1), s2) (And.intro (e_M_readsAmount d hz1) (And.intro (fun _ => hh) (fun q => absurd c2 q))))) ?_
    cases hz3 : M_isFigure (s2.2.1 63 9) s2 with
    | none => rw [hz3] at h; cases h
    | some v3 =>
    rw [hz3] at h
    dsimp only at h
    by_cases c4 : v3 = 0
    · rw [if_pos c4] at h
      have h := Option.some.inj h
      subst r
      exact ax_end 8 (Exists.intro (some (.int v3), s2) (And.intro (e_M_isFigure (d + 1) hz3) (And.intro (fun q => absurd c4 q) (fun _ => (Exists.intro (some (.int (M_wrongAt (7 : Int32) ((s.2.1 63 6) + (1 : Int32)) s2).1), (M_wrongAt (7 : Int32) ((s.2.1 63 6) + (1 : Int32)) s2).2) (And.intro (e_M_wrongAt (d + 2) (7 : Int32) ((s.2.1 63 6) + (1 : Int32)) s2) (And.intro (ax_ev_bool rfl (e_M_wrongAt (d + 2) (7 : Int32) ((s.2.1 63 6) + (1 : Int32)) s2)) rfl)))))))
    · rw [if_neg c4] at h
      cases hz5 : M_here s2 with
      | none => rw [hz5] at h; cases h
      | some v4 =>
      rw [hz5] at h
      dsimp only at h
      by_cases c6_0 : v4 = (33)
      · rw [if_pos c6_0] at h
        by_cases c7 : (((0 : Int32) + (s2.2.1 63 9)) < 0 ∨ 291 ≤ (((0 : Int32) + (s2.2.1 63 9))).toNatClampNeg)
        · rw [if_pos c7] at h; cases h
        · rw [if_neg c7] at h
          refine ax_cut (pc' := 254) (la := [some (.ref 63), some (.int ((s.2.1 63 6) + (1 : Int32))), some (.int (s2.2.1 63 9))]) [none, none, none] (st' := [.ref 63, .ref 63]) (σ' := (ax_sI s2 64 (((0 : Int32) + (s2.2.1 63 9))).toNatClampNeg (-1 : Int32))) 16 (trivial) (fun _ hh => (Exists.intro (some (.int v3), s2) (And.intro (e_M_isFigure (d + 1) hz3) (And.intro (fun _ => (Exists.intro (some (.int v4), s2) (And.intro (e_M_here (d + 2) hz5) (And.intro (List.forall_mem_cons.mpr ⟨fun _ => (And.intro c7 hh), List.forall_mem_cons.mpr ⟨fun e => absurd (e.symm.trans (congrArg Int32.toInt c6_0)) (by decide), List.forall_mem_cons.mpr ⟨fun e => absurd (e.symm.trans (congrArg Int32.toInt c6_0)) (by decide), List.forall_mem_cons.mpr ⟨fun e => absurd (e.symm.trans (congrArg Int32.toInt c6_0)) (by decide), List.forall_mem_cons.mpr ⟨fun e => absurd (e.symm.trans (congrArg Int32.toInt c6_0)) (by decide), fun _ h0 => absurd h0 List.not_mem_nil⟩⟩⟩⟩⟩) (fun q => absurd (congrArg Int32.toInt c6_0) (q (33, 181) (by decide))))))) (fun q => absurd c4 q))))) ?_
          have h := Option.some.inj h
          subst r
          exact ax_end 6 (And.intro (Or.inr rfl) rfl)
      rw [if_neg c6_0] at h
      by_cases c6_1 : v4 = (60)
      · rw [if_pos c6_1] at h
        refine ax_cut (pc' := 116) (la := [some (.ref 63), some (.int ((s.2.1 63 6) + (1 : Int32))), some (.int (s2.2.1 63 9))]) [some (.ref 63), none, none] (st' := [.int (s2.2.1 63 9), .int (12 : Int32), .ref 64, .int (0 : Int32), .int ((12 : Int32) + (s2.2.1 63 9)), .ref 64]) (σ' := s2) 16 (And.intro rfl (trivial)) (fun _ hh => (Exists.intro (some (.int v3), s2) (And.intro (e_M_isFigure (d + 1) hz3) (And.intro (fun _ => (Exists.intro (some (.int v4), s2) (And.intro (e_M_here (d + 2) hz5) (And.intro (List.forall_mem_cons.mpr ⟨fun e => absurd (e.symm.trans (congrArg Int32.toInt c6_1)) (by decide), List.forall_mem_cons.mpr ⟨fun _ => hh, List.forall_mem_cons.mpr ⟨fun e => absurd (e.symm.trans (congrArg Int32.toInt c6_1)) (by decide), List.forall_mem_cons.mpr ⟨fun e => absurd (e.symm.trans (congrArg Int32.toInt c6_1)) (by decide), List.forall_mem_cons.mpr ⟨fun e => absurd (e.symm.trans (congrArg Int32.toInt c6_1)) (by decide), fun _ h0 => absurd h0 List.not_mem_nil⟩⟩⟩⟩⟩) (fun q => absurd (congrArg Int32.toInt c6_1) (q (60, 51) (by decide))))))) (fun q => absurd c4 q))))) ?_
        by_cases c8 : (((12 : Int32) + (s2.2.1 63 9)) < 0 ∨ 291 ≤ (((12 : Int32) + (s2.2.1 63 9))).toNatClampNeg)
        · rw [if_pos c8] at h; cases h
        · rw [if_neg c8] at h
          by_cases c9 : (((12 : Int32) + (s2.2.1 63 9)) < 0 ∨ 291 ≤ (((12 : Int32) + (s2.2.1 63 9))).toNatClampNeg)
          · rw [if_pos c9] at h; cases h
          · rw [if_neg c9] at h
            have h := Option.some.inj h
            subst r
            exact ax_end 15 (And.intro c8 (Exists.intro (some (.int (M_max (0 : Int32) ((s2.2.1 64 (((12 : Int32) + (s2.2.1 63 9))).toNatClampNeg) - (1 : Int32)) s2)), s2) (And.intro (e_M_max (d + 2) (0 : Int32) ((s2.2.1 64 (((12 : Int32) + (s2.2.1 63 9))).toNatClampNeg) - (1 : Int32)) s2) (And.intro c9 (And.intro (Or.inr rfl) rfl)))))
      rw [if_neg c6_1] at h
      by_cases c6_2 : v4 = (62)
      · rw [if_pos c6_2] at h
        refine ax_cut (pc' := 144) (la := [some (.ref 63), some (.int ((s.2.1 63 6) + (1 : Int32))), some (.int (s2.2.1 63 9))]) [some (.ref 63), none, some (.int (s2.2.1 63 9))] (st' := [.int (s2.2.1 63 9), .int (36 : Int32), .ref 64, .int (16 : Int32), .int ((12 : Int32) + (s2.2.1 63 9)), .ref 64]) (σ' := s2) 16 (And.intro rfl (And.intro rfl (trivial))) (fun _ hh => (Exists.intro (some (.int v3), s2) (And.intro (e_M_isFigure (d + 1) hz3) (And.intro (fun _ => (Exists.intro (some (.int v4), s2) (And.intro (e_M_here (d + 2) hz5) (And.intro (List.forall_mem_cons.mpr ⟨fun e => absurd (e.symm.trans (congrArg Int32.toInt c6_2)) (by decide), List.forall_mem_cons.mpr ⟨fun e => absurd (e.symm.trans (congrArg Int32.toInt c6_2)) (by decide), List.forall_mem_cons.mpr ⟨fun _ => hh, List.forall_mem_cons.mpr ⟨fun e => absurd (e.symm.trans (congrArg Int32.toInt c6_2)) (by decide), List.forall_mem_cons.mpr ⟨fun e => absurd (e.symm.trans (congrArg Int32.toInt c6_2)) (by decide), fun _ h0 => absurd h0 List.not_mem_nil⟩⟩⟩⟩⟩) (fun q => absurd (congrArg Int32.toInt c6_2) (q (62, 78) (by decide))))))) (fun q => absurd c4 q))))) ?_
        by_cases c10 : (((36 : Int32) + (s2.2.1 63 9)) < 0 ∨ 291 ≤ (((36 : Int32) + (s2.2.1 63 9))).toNatClampNeg)
        · rw [if_pos c10] at h; cases h
        · rw [if_neg c10] at h
          by_cases c11 : (((12 : Int32) + (s2.2.1 63 9)) < 0 ∨ 291 ≤ (((12 : Int32) + (s2.2.1 63 9))).toNatClampNeg)
          · rw [if_pos c11] at h; cases h
          · rw [if_neg c11] at h
            by_cases c12 : (((12 : Int32) + (s2.2.1 63 9)) < 0 ∨ 291 ≤ (((12 : Int32) + (s2.2.1 63 9))).toNatClampNeg)
            · rw [if_pos c12] at h; cases h
            · rw [if_neg c12] at h
              refine ax_cut (pc' := 254) (la := [some (.ref 63), none, some (.int (s2.2.1 63 9))]) [none, none, none] (st' := [.ref 63, .ref 63]) (σ' := (ax_sI s2 64 (((12 : Int32) + (s2.2.1 63 9))).toNatClampNeg (M_min ((16 : Int32) - (s2.2.1 64 (((36 : Int32) + (s2.2.1 63 9))).toNatClampNeg)) ((s2.2.1 64 (((12 : Int32) + (s2.2.1 63 9))).toNatClampNeg) + (1 : Int32)) s2))) 16 (trivial) (fun _ hh => (And.intro c10 (And.intro c11 (Exists.intro (some (.int (M_min ((16 : Int32) - (s2.2.1 64 (((36 : Int32) + (s2.2.1 63 9))).toNatClampNeg)) ((s2.2.1 64 (((12 : Int32) + (s2.2.1 63 9))).toNatClampNeg) + (1 : Int32)) s2)), s2) (And.intro (e_M_min (d + 2) ((16 : Int32) - (s2.2.1 64 (((36 : Int32) + (s2.2.1 63 9))).toNatClampNeg)) ((s2.2.1 64 (((12 : Int32) + (s2.2.1 63 9))).toNatClampNeg) + (1 : Int32)) s2) (And.intro c12 hh)))))) ?_
              have h := Option.some.inj h
              subst r
              exact ax_end 6 (And.intro (Or.inr rfl) rfl)
      rw [if_neg c6_2] at h
      by_cases c6_3 : v4 = (94)
      · rw [if_pos c6_3] at h
        refine ax_cut (pc' := 181) (la := [some (.ref 63), some (.int ((s.2.1 63 6) + (1 : Int32))), some (.int (s2.2.1 63 9))]) [some (.ref 63), none, none] (st' := [.int (s2.2.1 63 9), .int (24 : Int32), .ref 64, .int (0 : Int32), .int ((24 : Int32) + (s2.2.1 63 9)), .ref 64]) (σ' := s2) 16 (And.intro rfl (trivial)) (fun _ hh => (Exists.intro (some (.int v3), s2) (And.intro (e_M_isFigure (d + 1) hz3) (And.intro (fun _ => (Exists.intro (some (.int v4), s2) (And.intro (e_M_here (d + 2) hz5) (And.intro (List.forall_mem_cons.mpr ⟨fun e => absurd (e.symm.trans (congrArg Int32.toInt c6_3)) (by decide), List.forall_mem_cons.mpr ⟨fun e => absurd (e.symm.trans (congrArg Int32.toInt c6_3)) (by decide), List.forall_mem_cons.mpr ⟨fun e => absurd (e.symm.trans (congrArg Int32.toInt c6_3)) (by decide), List.forall_mem_cons.mpr ⟨fun _ => hh, List.forall_mem_cons.mpr ⟨fun e => absurd (e.symm.trans (congrArg Int32.toInt c6_3)) (by decide), fun _ h0 => absurd h0 List.not_mem_nil⟩⟩⟩⟩⟩) (fun q => absurd (congrArg Int32.toInt c6_3) (q (94, 116) (by decide))))))) (fun q => absurd c4 q))))) ?_
        by_cases c13 : (((24 : Int32) + (s2.2.1 63 9)) < 0 ∨ 291 ≤ (((24 : Int32) + (s2.2.1 63 9))).toNatClampNeg)
        · rw [if_pos c13] at h; cases h
        · rw [if_neg c13] at h
          by_cases c14 : (((24 : Int32) + (s2.2.1 63 9)) < 0 ∨ 291 ≤ (((24 : Int32) + (s2.2.1 63 9))).toNatClampNeg)
          · rw [if_pos c14] at h; cases h
          · rw [if_neg c14] at h
            have h := Option.some.inj h
            subst r
            exact ax_end 15 (And.intro c13 (Exists.intro (some (.int (M_max (0 : Int32) ((s2.2.1 64 (((24 : Int32) + (s2.2.1 63 9))).toNatClampNeg) - (1 : Int32)) s2)), s2) (And.intro (e_M_max (d + 2) (0 : Int32) ((s2.2.1 64 (((24 : Int32) + (s2.2.1 63 9))).toNatClampNeg) - (1 : Int32)) s2) (And.intro c14 (And.intro (Or.inr rfl) rfl)))))
      rw [if_neg c6_3] at h
      by_cases c6_4 : v4 = (95)
      · rw [if_pos c6_4] at h
        refine ax_cut (pc' := 209) (la := [some (.ref 63), some (.int ((s.2.1 63 6) + (1 : Int32))), some (.int (s2.2.1 63 9))]) [some (.ref 63), none, some (.int (s2.2.1 63 9))] (st' := [.int (s2.2.1 63 9), .int (48 : Int32), .ref 64, .int (12 : Int32), .int ((24 : Int32) + (s2.2.1 63 9)), .ref 64]) (σ' := s2) 16 (And.intro rfl (And.intro rfl (trivial))) (fun _ hh => (Exists.intro (some (.int v3), s2) (And.intro (e_M_isFigure (d + 1) hz3) (And.intro (fun _ => (Exists.intro (some (.int v4), s2) (And.intro (e_M_here (d + 2) hz5) (And.intro (List.forall_mem_cons.mpr ⟨fun e => absurd (e.symm.trans (congrArg Int32.toInt c6_4)) (by decide), List.forall_mem_cons.mpr ⟨fun e => absurd (e.symm.trans (congrArg Int32.toInt c6_4)) (by decide), List.forall_mem_cons.mpr ⟨fun e => absurd (e.symm.trans (congrArg Int32.toInt c6_4)) (by decide), List.forall_mem_cons.mpr ⟨fun e => absurd (e.symm.trans (congrArg Int32.toInt c6_4)) (by decide), List.forall_mem_cons.mpr ⟨fun _ => hh, fun _ h0 => absurd h0 List.not_mem_nil⟩⟩⟩⟩⟩) (fun q => absurd (congrArg Int32.toInt c6_4) (q (95, 143) (by decide))))))) (fun q => absurd c4 q))))) ?_
        by_cases c15 : (((48 : Int32) + (s2.2.1 63 9)) < 0 ∨ 291 ≤ (((48 : Int32) + (s2.2.1 63 9))).toNatClampNeg)
        · rw [if_pos c15] at h; cases h
        · rw [if_neg c15] at h
          by_cases c16 : (((24 : Int32) + (s2.2.1 63 9)) < 0 ∨ 291 ≤ (((24 : Int32) + (s2.2.1 63 9))).toNatClampNeg)
          · rw [if_pos c16] at h; cases h
          · rw [if_neg c16] at h
            by_cases c17 : (((24 : Int32) + (s2.2.1 63 9)) < 0 ∨ 291 ≤ (((24 : Int32) + (s2.2.1 63 9))).toNatClampNeg)
            · rw [if_pos c17] at h; cases h
            · rw [if_neg c17] at h
              refine ax_cut (pc' := 254) (la := [some (.ref 63), none, some (.int (s2.2.1 63 9))]) [none, none, none] (st' := [.ref 63, .ref 63]) (σ' := (ax_sI s2 64 (((24 : Int32) + (s2.2.1 63 9))).toNatClampNeg (M_min ((12 : Int32) - (s2.2.1 64 (((48 : Int32) + (s2.2.1 63 9))).toNatClampNeg)) ((s2.2.1 64 (((24 : Int32) + (s2.2.1 63 9))).toNatClampNeg) + (1 : Int32)) s2))) 16 (trivial) (fun _ hh => (And.intro c15 (And.intro c16 (Exists.intro (some (.int (M_min ((12 : Int32) - (s2.2.1 64 (((48 : Int32) + (s2.2.1 63 9))).toNatClampNeg)) ((s2.2.1 64 (((24 : Int32) + (s2.2.1 63 9))).toNatClampNeg) + (1 : Int32)) s2)), s2) (And.intro (e_M_min (d + 2) ((12 : Int32) - (s2.2.1 64 (((48 : Int32) + (s2.2.1 63 9))).toNatClampNeg)) ((s2.2.1 64 (((24 : Int32) + (s2.2.1 63 9))).toNatClampNeg) + (1 : Int32)) s2) (And.intro c17 hh)))))) ?_
              have h := Option.some.inj h
              subst r
              exact ax_end 6 (And.intro (Or.inr rfl) rfl)
      rw [if_neg c6_4] at h
      have h := Option.some.inj h
      subst r
      exact ax_end 12 (Exists.intro (some (.int v3), s2) (And.intro (e_M_isFigure (d + 1) hz3) (And.intro (fun _ => (Exists.intro (some (.int v4), s2) (And.intro (e_M_here (d + 2) hz5) (And.intro (List.forall_mem_cons.mpr ⟨fun e => absurd (Int32.toInt_inj.mp e) c6_0, List.forall_mem_cons.mpr ⟨fun e => absurd (Int32.toInt_inj.mp e) c6_1, List.forall_mem_cons.mpr ⟨fun e => absurd (Int32.toInt_inj.mp e) c6_2, List.forall_mem_cons.mpr ⟨fun e => absurd (Int32.toInt_inj.mp e) c6_3, List.forall_mem_cons.mpr ⟨fun e => absurd (Int32.toInt_inj.mp e) c6_4, fun _ h0 => absurd h0 List.not_mem_nil⟩⟩⟩⟩⟩) (fun _ => (Exists.intro (some (.int (M_wrongAt (1 : Int32) (s2.2.1 63 6) s2).1), (M_wrongAt (1 : Int32) (s2.2.1 63 6) s2).2) (And.intro (e_M_wrongAt (d + 2) (1 : Int32) (s2.2.1 63 6) s2) (And.intro (ax_ev_bool rfl (e_M_wrongAt (d + 2) (1 : Int32) (s2.2.1 63 6) s2)) rfl)))))))) (fun q => absurd c4 q))))
def M_readsEdit  (s : ax_S) : Option (Int32 × ax_S) :=
  match M_here s with
  | none => none
  | some v1 =>
    if v1 = (35 : Int32) then (
      if (s.2.1 63 28) = (20 : Int32) then (
        some ((M_wrongAt (4 : Int32) (s.2.1 63 6) s).1, (M_wrongAt (4 : Int32) (s.2.1 63 6) s).2)) else
      if v1 = (35 : Int32) then (
        match M_readsMove (ax_sI s 63 28 ((s.2.1 63 28) + (1 : Int32))) with
        | none => none
        | some (v4, s5) =>
          some (v4, s5)) else
      match M_readsPain (v1 - (97 : Int32)) (ax_sI s 63 28 ((s.2.1 63 28) + (1 : Int32))) with
      | none => none
      | some (v2, s3) =>
        some (v2, s3)) else
    if (M_isPerson (v1 - (97 : Int32)) s) = 0 then (
      some ((M_wrongAt (1 : Int32) (s.2.1 63 6) s).1, (M_wrongAt (1 : Int32) (s.2.1 63 6) s).2)) else
    if (s.2.1 63 28) = (20 : Int32) then (
      some ((M_wrongAt (4 : Int32) (s.2.1 63 6) s).1, (M_wrongAt (4 : Int32) (s.2.1 63 6) s).2)) else
    if v1 = (35 : Int32) then (
      match M_readsMove (ax_sI s 63 28 ((s.2.1 63 28) + (1 : Int32))) with
      | none => none
      | some (v8, s9) =>
        some (v8, s9)) else
    match M_readsPain (v1 - (97 : Int32)) (ax_sI s 63 28 ((s.2.1 63 28) + (1 : Int32))) with
    | none => none
    | some (v6, s7) =>
      some (v6, s7)
theorem e_M_readsEdit (d : Nat)  {s : ax_S} {r : Int32 × ax_S} (h : M_readsEdit s = some r) : ax_ev true (d + 5) 211 [.ref 63] s (some (.int r.1), r.2) := by
  refine ⟨Nat.le_of_ble_eq_true rfl, ?_⟩
  show ax_go true none (ax_ev true (d + 4)) ax_m211 0 [some (.ref 63), none] [] s _
  unfold M_readsEdit at h
  cases hz1 : M_here s with
  | none => rw [hz1] at h; cases h
  | some v1 =>
  rw [hz1] at h
  dsimp only at h
  by_cases c2 : v1 = (35 : Int32)
  · rw [if_pos c2] at h
    by_cases c3 : (s.2.1 63 28) = (20 : Int32)
    · rw [if_pos c3] at h
      have h := Option.some.inj h
      subst r
      exact ax_end 16 (Exists.intro (some (.int v1), s) (And.intro (e_M_here (d + 3) hz1) (And.intro (fun _ => (And.intro (fun q => absurd c3 q) (fun _ => (Exists.intro (some (.int (M_wrongAt (4 : Int32) (s.2.1 63 6) s).1), (M_wrongAt (4 : Int32) (s.2.1 63 6) s).2) (And.intro (e_M_wrongAt (d + 3) (4 : Int32) (s.2.1 63 6) s) (And.intro (ax_ev_bool rfl (e_M_wrongAt (d + 3) (4 : Int32) (s.2.1 63 6) s)) rfl)))))) (fun q => absurd c2 q))))
    · rw [if_neg c3] at h
      refine ax_cut (pc' := 60) (la := [some (.ref 63), some (.int v1)]) [some (.ref 63), some (.int v1)] (st' := []) (σ' := (ax_sI s 63 28 ((s.2.1 63 28) + (1 : Int32)))) 16 (And.intro rfl (And.intro rfl (trivial))) (fun _ hh => (Exists.intro (some (.int v1), s) (And.intro (e_M_here (d + 3) hz1) (And.intro (fun _ => (And.intro (fun _ => hh) (fun q => absurd c3 q))) (fun q => absurd c2 q))))) ?_
      by_cases c4 : v1 = (35 : Int32)
      · rw [if_pos c4] at h
        cases hz5 : M_readsMove (ax_sI s 63 28 ((s.2.1 63 28) + (1 : Int32))) with
        | none => rw [hz5] at h; cases h
        | some z5 =>
        rw [hz5] at h
        obtain ⟨v4, s5⟩ := z5
        dsimp only at h
        have h := Option.some.inj h
        subst r
        exact ax_end 7 (And.intro (fun q => absurd c4 q) (fun _ => (Exists.intro (some (.int v4), s5) (And.intro (e_M_readsMove d hz5) (And.intro (ax_ev_bool rfl (e_M_readsMove d hz5)) rfl)))))
      · rw [if_neg c4] at h
        cases hz6 : M_readsPain (v1 - (97 : Int32)) (ax_sI s 63 28 ((s.2.1 63 28) + (1 : Int32))) with
        | none => rw [hz6] at h; cases h
        | some z6 =>
        rw [hz6] at h
        obtain ⟨v2, s3⟩ := z6
        dsimp only at h
        have h := Option.some.inj h
        subst r
        exact ax_end 9 (And.intro (fun _ => (Exists.intro (some (.int v2), s3) (And.intro (e_M_readsPain d hz6) (And.intro (ax_ev_bool rfl (e_M_readsPain d hz6)) rfl)))) (fun q => absurd c4 q))
  · rw [if_neg c2] at h
    by_cases c7 : (M_isPerson (v1 - (97 : Int32)) s) = 0
    · rw [if_pos c7] at h
      refine ax_cut (pc' := 30) (la := [some (.ref 63), some (.int v1)]) [none, none] (st' := [.int (M_wrongAt (1 : Int32) (s.2.1 63 6) s).1]) (σ' := (M_wrongAt (1 : Int32) (s.2.1 63 6) s).2) 16 (trivial) (fun _ hh => (Exists.intro (some (.int v1), s) (And.intro (e_M_here (d + 3) hz1) (And.intro (fun q => absurd q c2) (fun _ => (Exists.intro (some (.int (M_isPerson (v1 - (97 : Int32)) s)), s) (And.intro (e_M_isPerson (d + 2) (v1 - (97 : Int32)) s) (And.intro (fun q => absurd c7 q) (fun _ => (Exists.intro (some (.int (M_wrongAt (1 : Int32) (s.2.1 63 6) s).1), (M_wrongAt (1 : Int32) (s.2.1 63 6) s).2) (And.intro (e_M_wrongAt (d + 3) (1 : Int32) (s.2.1 63 6) s) hh))))))))))) ?_
      have h := Option.some.inj h
      subst r
      exact ax_end 1 (And.intro (ax_ev_bool rfl (e_M_wrongAt (d + 3) (1 : Int32) (s.2.1 63 6) s)) rfl)
    · rw [if_neg c7] at h
      by_cases c8 : (s.2.1 63 28) = (20 : Int32)
      · rw [if_pos c8] at h
        refine ax_cut (pc' := 41) (la := [some (.ref 63), some (.int v1)]) [some (.ref 63), none] (st' := [.ref 63]) (σ' := s) 16 (And.intro rfl (trivial)) (fun _ hh => (Exists.intro (some (.int v1), s) (And.intro (e_M_here (d + 3) hz1) (And.intro (fun q => absurd q c2) (fun _ => (Exists.intro (some (.int (M_isPerson (v1 - (97 : Int32)) s)), s) (And.intro (e_M_isPerson (d + 2) (v1 - (97 : Int32)) s) (And.intro (fun _ => (And.intro (fun q => absurd c8 q) (fun _ => hh))) (fun q => absurd c7 q))))))))) ?_
        have h := Option.some.inj h
        subst r
        exact ax_end 5 (Exists.intro (some (.int (M_wrongAt (4 : Int32) (s.2.1 63 6) s).1), (M_wrongAt (4 : Int32) (s.2.1 63 6) s).2) (And.intro (e_M_wrongAt (d + 3) (4 : Int32) (s.2.1 63 6) s) (And.intro (ax_ev_bool rfl (e_M_wrongAt (d + 3) (4 : Int32) (s.2.1 63 6) s)) rfl)))
      · rw [if_neg c8] at h
        refine ax_cut (pc' := 51) (la := [some (.ref 63), some (.int v1)]) [some (.ref 63), some (.int v1)] (st' := [.ref 63]) (σ' := s) 16 (And.intro rfl (And.intro rfl (trivial))) (fun _ hh => (Exists.intro (some (.int v1), s) (And.intro (e_M_here (d + 3) hz1) (And.intro (fun q => absurd q c2) (fun _ => (Exists.intro (some (.int (M_isPerson (v1 - (97 : Int32)) s)), s) (And.intro (e_M_isPerson (d + 2) (v1 - (97 : Int32)) s) (And.intro (fun _ => (And.intro (fun _ => hh) (fun q => absurd c8 q))) (fun q => absurd c7 q))))))))) ?_
        by_cases c9 : v1 = (35 : Int32)
        · rw [if_pos c9] at h
          cases hz10 : M_readsMove (ax_sI s 63 28 ((s.2.1 63 28) + (1 : Int32))) with
          | none => rw [hz10] at h; cases h
          | some z10 =>
          rw [hz10] at h
          obtain ⟨v8, s9⟩ := z10
          dsimp only at h
          have h := Option.some.inj h
          subst r
          exact ax_end 12 (And.intro (fun q => absurd c9 q) (fun _ => (Exists.intro (some (.int v8), s9) (And.intro (e_M_readsMove d hz10) (And.intro (ax_ev_bool rfl (e_M_readsMove d hz10)) rfl)))))
        · rw [if_neg c9] at h
          cases hz11 : M_readsPain (v1 - (97 : Int32)) (ax_sI s 63 28 ((s.2.1 63 28) + (1 : Int32))) with
          | none => rw [hz11] at h; cases h
          | some z11 =>
          rw [hz11] at h
          obtain ⟨v6, s7⟩ := z11
          dsimp only at h
          have h := Option.some.inj h
          subst r
          exact ax_end 14 (And.intro (fun _ => (Exists.intro (some (.int v6), s7) (And.intro (e_M_readsPain d hz11) (And.intro (ax_ev_bool rfl (e_M_readsPain d hz11)) rfl)))) (fun q => absurd c9 q))
def M_edits_l46 : Nat → Int32 → ax_S → Option (Int32 × ax_S)
  | 0, _, _ => none
  | n + 1, x2, s =>
    if x2 = 0 then (
      some (x2, s)) else
    if (s.2.1 63 7) ≤ (s.2.1 63 6) then (
      some (x2, s)) else
    match M_takes (59 : Int32) s with
    | none => none
    | some (v4, s5) =>
      if v4 = 0 then (
        M_edits_l46 n (0 : Int32) s5) else
      match M_readsEdit s5 with
      | none => none
      | some (v6, s7) =>
        if v6 = 0 then (
          M_edits_l46 n (0 : Int32) s7) else
        M_edits_l46 n (1 : Int32) s7
def M_edits (x1 : Int32)  (s : ax_S) : Option (Int32 × ax_S) :=
  if (M_in x1 (1 : Int32) (120 : Int32) s) = 0 then (
    some ((-1 : Int32), s)) else
  if x1 ≤ (s.2.1 63 5) then (
    match M_copies_64_65 (ax_sI (M_beginsText x1 s) 63 28 (0 : Int32)) with
    | none => none
    | some s1 =>
      match M_readsEdit s1 with
      | none => none
      | some (v2, s3) =>
        match M_edits_l46 70000 v2 s3 with
        | none => none
        | some (v8, s9) =>
          if v8 = 0 then (
            match M_copies_65_64 (ax_sI s9 63 5 (0 : Int32)) with
            | none => none
            | some s10 =>
              some ((s10.2.1 63 8), s10)) else
          some ((s9.2.1 63 28), (ax_sI s9 63 5 (0 : Int32)))) else
  some ((-1 : Int32), s)
theorem w_M_edits_l46 (d : Nat) {o : ax_O} : ∀ (n : Nat) (x2 : Int32) (s : ax_S) (r : Int32 × ax_S) (h : M_edits_l46 n x2 s = some r) (hk0 : ∀ (t0 : Int32) (t1 : ax_S), r = (t0, t1) → ax_go true none (ax_ev true (d + 5)) ax_m210 86 [some (.ref 63), none, some (.int t0)] [] t1 o), ax_go true none (ax_ev true (d + 5)) ax_m210 46 [some (.ref 63), none, some (.int x2)] [] s o := by
  intro n
  induction n with
  | zero => intro x2 s r h hk0; cases h
  | succ n ih =>
    intro x2 s r h hk0
    rw [M_edits_l46] at h
    by_cases c1 : x2 = 0
    · rw [if_pos c1] at h
      have h := Option.some.inj h
      subst r
      exact ax_cut (pc' := 86) (la := [some (.ref 63), none, some (.int x2)]) [some (.ref 63), none, some (.int x2)] (st' := []) (σ' := s) 2 (And.intro rfl (And.intro rfl (trivial))) (fun _ hh => (And.intro (fun _ => hh) (fun q => absurd c1 q))) (hk0 _ _ rfl)
    · rw [if_neg c1] at h
      by_cases c2 : (s.2.1 63 7) ≤ (s.2.1 63 6)
      · rw [if_pos c2] at h
        have h := Option.some.inj h
        subst r
        exact ax_cut (pc' := 86) (la := [some (.ref 63), none, some (.int x2)]) [some (.ref 63), none, some (.int x2)] (st' := []) (σ' := s) 7 (And.intro rfl (And.intro rfl (trivial))) (fun _ hh => (And.intro (fun q => absurd q c1) (fun _ => (And.intro (fun _ => hh) (fun q => absurd c2 q))))) (hk0 _ _ rfl)
      · rw [if_neg c2] at h
        cases hz3 : M_takes (59 : Int32) s with
        | none => rw [hz3] at h; cases h
        | some z3 =>
        rw [hz3] at h
        obtain ⟨v4, s5⟩ := z3
        dsimp only at h
        by_cases c4 : v4 = 0
        · rw [if_pos c4] at h
          exact ax_cut (pc' := 46) (la := [some (.ref 63), none, some (.int (0 : Int32))]) [some (.ref 63), none, some (.int (0 : Int32))] (st' := []) (σ' := s5) 14 (And.intro rfl (And.intro rfl (trivial))) (fun _ hh => (And.intro (fun q => absurd q c1) (fun _ => (And.intro (fun q => absurd q c2) (fun _ => (Exists.intro (some (.int v4), s5) (And.intro (e_M_takes (d + 3) hz3) (And.intro (fun _ => hh) (fun q => absurd c4 q))))))))) (ih (0 : Int32) s5 _ h hk0)
        · rw [if_neg c4] at h
          cases hz5 : M_readsEdit s5 with
          | none => rw [hz5] at h; cases h
          | some z5 =>
          rw [hz5] at h
          obtain ⟨v6, s7⟩ := z5
          dsimp only at h
          by_cases c6 : v6 = 0
          · rw [if_pos c6] at h
            refine ax_cut (pc' := 83) (la := [some (.ref 63), none, some (.int (0 : Int32))]) [some (.ref 63), none, some (.int (0 : Int32))] (st' := []) (σ' := s7) 16 (And.intro rfl (And.intro rfl (trivial))) (fun _ hh => (And.intro (fun q => absurd q c1) (fun _ => (And.intro (fun q => absurd q c2) (fun _ => (Exists.intro (some (.int v4), s5) (And.intro (e_M_takes (d + 3) hz3) (And.intro (fun q => absurd q c4) (fun _ => (Exists.intro (some (.int v6), s7) (And.intro (e_M_readsEdit d hz5) (And.intro (fun _ => hh) (fun q => absurd c6 q))))))))))))) ?_
            exact ax_cut (pc' := 46) (la := [some (.ref 63), none, some (.int (0 : Int32))]) [some (.ref 63), none, some (.int (0 : Int32))] (st' := []) (σ' := s7) 1 (And.intro rfl (And.intro rfl (trivial))) (fun _ hh => hh) (ih (0 : Int32) s7 _ h hk0)
          · rw [if_neg c6] at h
            refine ax_cut (pc' := 82) (la := [some (.ref 63), none, some (.int x2)]) [some (.ref 63), none, none] (st' := [.int (1 : Int32)]) (σ' := s7) 16 (And.intro rfl (trivial)) (fun _ hh => (And.intro (fun q => absurd q c1) (fun _ => (And.intro (fun q => absurd q c2) (fun _ => (Exists.intro (some (.int v4), s5) (And.intro (e_M_takes (d + 3) hz3) (And.intro (fun q => absurd q c4) (fun _ => (Exists.intro (some (.int v6), s7) (And.intro (e_M_readsEdit d hz5) (And.intro (fun q => absurd q c6) (fun _ => hh))))))))))))) ?_
            exact ax_cut (pc' := 46) (la := [some (.ref 63), none, some (.int (1 : Int32))]) [some (.ref 63), none, some (.int (1 : Int32))] (st' := []) (σ' := s7) 2 (And.intro rfl (And.intro rfl (trivial))) (fun _ hh => hh) (ih (1 : Int32) s7 _ h hk0)
theorem e_M_edits (d : Nat) {x1 : Int32} {s : ax_S} {r : Int32 × ax_S} (h : M_edits x1 s = some r) : ax_ev true (d + 6) 210 [.ref 63, .int x1] s (some (.int r.1), r.2) := by
  refine ⟨Nat.le_of_ble_eq_true rfl, ?_⟩
  show ax_go true none (ax_ev true (d + 5)) ax_m210 0 [some (.ref 63), some (.int x1), none] [] s _
  unfold M_edits at h
  by_cases c1 : (M_in x1 (1 : Int32) (120 : Int32) s) = 0
  · rw [if_pos c1] at h
    have h := Option.some.inj h
    subst r
    exact ax_end 7 (Exists.intro (some (.int (M_in x1 (1 : Int32) (120 : Int32) s)), s) (And.intro (e_M_in (d + 4) x1 (1 : Int32) (120 : Int32) s) (And.intro (fun _ => rfl) (fun q => absurd c1 q))))
  · rw [if_neg c1] at h
    by_cases c2 : x1 ≤ (s.2.1 63 5)
    · rw [if_pos c2] at h
      refine ax_cut (pc' := 31) (la := [some (.ref 63), some (.int x1), none]) [some (.ref 63), none, none] (st' := [.ref 63]) (σ' := (ax_sI (M_beginsText x1 s) 63 28 (0 : Int32))) 16 (And.intro rfl (trivial)) (fun _ hh => (Exists.intro (some (.int (M_in x1 (1 : Int32) (120 : Int32) s)), s) (And.intro (e_M_in (d + 4) x1 (1 : Int32) (120 : Int32) s) (And.intro (fun q => absurd q c1) (fun _ => (And.intro (fun _ => (Exists.intro (none, (M_beginsText x1 s)) (And.intro (e_M_beginsText (d + 4) x1 s) hh))) (fun q => absurd c2 q))))))) ?_
      cases hz3 : M_copies_64_65 (ax_sI (M_beginsText x1 s) 63 28 (0 : Int32)) with
      | none => rw [hz3] at h; cases h
      | some s1 =>
      rw [hz3] at h
      dsimp only at h
      cases hz4 : M_readsEdit s1 with
      | none => rw [hz4] at h; cases h
      | some z4 =>
      rw [hz4] at h
      obtain ⟨v2, s3⟩ := z4
      dsimp only at h
      cases hz5 : M_edits_l46 70000 v2 s3 with
      | none => rw [hz5] at h; cases h
      | some z5 =>
      rw [hz5] at h
      refine ax_cut (pc' := 46) (la := [some (.ref 63), none, some (.int v2)]) [some (.ref 63), none, some (.int v2)] (st' := []) (σ' := s3) 7 (And.intro rfl (And.intro rfl (trivial))) (fun _ hh => (Exists.intro (none, s1) (And.intro (e_M_copies_64_65 (d + 4) hz3) (Exists.intro (some (.int v2), s3) (And.intro (e_M_readsEdit d hz4) hh))))) (w_M_edits_l46 d 70000 v2 s3 _ hz5 ?_)
      · intro v8 s9 hq
        subst z5
        dsimp only at h
        by_cases c6 : v8 = 0
        · rw [if_pos c6] at h
          cases hz7 : M_copies_65_64 (ax_sI s9 63 5 (0 : Int32)) with
          | none => rw [hz7] at h; cases h
          | some s10 =>
          rw [hz7] at h
          dsimp only at h
          have h := Option.some.inj h
          subst r
          exact ax_end 13 (And.intro (fun _ => (Exists.intro (none, s10) (And.intro (e_M_copies_65_64 (d + 4) hz7) rfl))) (fun q => absurd c6 q))
        · rw [if_neg c6] at h
          have h := Option.some.inj h
          subst r
          exact ax_end 8 (And.intro (fun q => absurd q c6) (fun _ => rfl))
    · rw [if_neg c2] at h
      have h := Option.some.inj h
      subst r
      exact ax_end 11 (Exists.intro (some (.int (M_in x1 (1 : Int32) (120 : Int32) s)), s) (And.intro (e_M_in (d + 4) x1 (1 : Int32) (120 : Int32) s) (And.intro (fun q => absurd q c1) (fun _ => (And.intro (fun q => absurd q c2) (fun _ => rfl))))))
def XFi_turnOver_4_l2 : Nat → Int32 → ax_S → Option (ax_S)
  | 0, _, _ => none
  | n + 1, x1, s =>
    if (12 : Int32) ≤ x1 then (
      some s) else
    if (x1 < 0 ∨ 12 ≤ (x1).toNatClampNeg) then none else
    if (s.2.1 5 (x1).toNatClampNeg) = (-1 : Int32) then (
      XFi_turnOver_4_l2 n (x1 + (1)) s) else
    if (x1 < 0 ∨ 12 ≤ (x1).toNatClampNeg) then none else
    if (x1 < 0 ∨ 12 ≤ (x1).toNatClampNeg) then none else
    if (x1 < 0 ∨ 12 ≤ (x1).toNatClampNeg) then none else
    XFi_turnOver_4_l2 n (x1 + (1)) (ax_sI s 6 (x1).toNatClampNeg (((16 : Int32) - (s.2.1 6 (x1).toNatClampNeg)) - (s.2.1 8 (x1).toNatClampNeg)))
def XFi_turnOver_4  (s : ax_S) : Option (ax_S) :=
  match XFi_turnOver_4_l2 70000 (0 : Int32) s with
  | none => none
  | some s1 =>
    some s1
theorem w_XFi_turnOver_4_l2 (d : Nat) {o : ax_O} : ∀ (n : Nat) (x1 : Int32) (s : ax_S) (r : ax_S) (h : XFi_turnOver_4_l2 n x1 s = some r) (hk0 : ∀ (t0 : ax_S), r = t0 → ax_go true none (ax_ev true (d + 0)) ax_m73 46 [none, none] [] t0 o), ax_go true none (ax_ev true (d + 0)) ax_m73 2 [some (.ref 4), some (.int x1)] [] s o := by
  intro n
  induction n with
  | zero => intro x1 s r h hk0; cases h
  | succ n ih =>
    intro x1 s r h hk0
    rw [XFi_turnOver_4_l2] at h
    by_cases c1 : (12 : Int32) ≤ x1
    · rw [if_pos c1] at h
      have h := Option.some.inj h
      subst r
      exact ax_cut (pc' := 46) (la := [some (.ref 4), some (.int x1)]) [none, none] (st' := []) (σ' := s) 3 (trivial) (fun _ hh => (And.intro (fun _ => hh) (fun q => absurd c1 q))) (hk0 _ rfl)
    · rw [if_neg c1] at h
      by_cases c2 : (x1 < 0 ∨ 12 ≤ (x1).toNatClampNeg)
      · rw [if_pos c2] at h; cases h
      · rw [if_neg c2] at h
        by_cases c3 : (s.2.1 5 (x1).toNatClampNeg) = (-1 : Int32)
        · rw [if_pos c3] at h
          exact ax_cut (pc' := 2) (la := [some (.ref 4), some (.int (x1 + (1)))]) [some (.ref 4), some (.int (x1 + (1)))] (st' := []) (σ' := s) 11 (And.intro rfl (And.intro rfl (trivial))) (fun _ hh => (And.intro (fun q => absurd q c1) (fun _ => (And.intro c2 (And.intro (fun _ => hh) (fun q => absurd c3 q)))))) (ih (x1 + (1)) s _ h hk0)
        · rw [if_neg c3] at h
          refine ax_cut (pc' := 30) (la := [some (.ref 4), some (.int x1)]) [some (.ref 4), some (.int x1)] (st' := [.int x1, .ref 6, .int (16 : Int32), .int x1, .ref 6]) (σ' := s) 16 (And.intro rfl (And.intro rfl (trivial))) (fun _ hh => (And.intro (fun q => absurd q c1) (fun _ => (And.intro c2 (And.intro (fun q => absurd q c3) (fun _ => hh)))))) ?_
          by_cases c4 : (x1 < 0 ∨ 12 ≤ (x1).toNatClampNeg)
          · rw [if_pos c4] at h; cases h
          · rw [if_neg c4] at h
            by_cases c5 : (x1 < 0 ∨ 12 ≤ (x1).toNatClampNeg)
            · rw [if_pos c5] at h; cases h
            · rw [if_neg c5] at h
              by_cases c6 : (x1 < 0 ∨ 12 ≤ (x1).toNatClampNeg)
              · rw [if_pos c6] at h; cases h
              · rw [if_neg c6] at h
                exact ax_cut (pc' := 2) (la := [some (.ref 4), some (.int (x1 + (1)))]) [some (.ref 4), some (.int (x1 + (1)))] (st' := []) (σ' := (ax_sI s 6 (x1).toNatClampNeg (((16 : Int32) - (s.2.1 6 (x1).toNatClampNeg)) - (s.2.1 8 (x1).toNatClampNeg)))) 10 (And.intro rfl (And.intro rfl (trivial))) (fun _ hh => (And.intro c4 (And.intro c5 (And.intro c6 hh)))) (ih (x1 + (1)) (ax_sI s 6 (x1).toNatClampNeg (((16 : Int32) - (s.2.1 6 (x1).toNatClampNeg)) - (s.2.1 8 (x1).toNatClampNeg))) _ h hk0)
theorem e_XFi_turnOver_4 (d : Nat)  {s : ax_S} {r : ax_S} (h : XFi_turnOver_4 s = some r) : ax_ev true (d + 1) 73 [.ref 4] s (none, r) := by
  refine ⟨Nat.le_of_ble_eq_true rfl, ?_⟩
  show ax_go true none (ax_ev true (d + 0)) ax_m73 0 [some (.ref 4), none] [] s _
  unfold XFi_turnOver_4 at h
  cases hz1 : XFi_turnOver_4_l2 70000 (0 : Int32) s with
  | none => rw [hz1] at h; cases h
  | some z1 =>
  rw [hz1] at h
  refine ax_cut (pc' := 2) (la := [some (.ref 4), some (.int (0 : Int32))]) [some (.ref 4), some (.int (0 : Int32))] (st' := []) (σ' := s) 2 (And.intro rfl (And.intro rfl (trivial))) (fun _ hh => hh) (w_XFi_turnOver_4_l2 d 70000 (0 : Int32) s _ hz1 ?_)
  · intro s1 hq
    subst z1
    dsimp only at h
    have h := Option.some.inj h
    subst r
    exact ax_end 1 rfl
def XFi_bits_4_l4 : Nat → Int32 → Int32 → ax_S → Option (Int32)
  | 0, _, _, _ => none
  | n + 1, x1, x2, s =>
    if (12 : Int32) ≤ x2 then (
      some x1) else
    if (x2 < 0 ∨ 12 ≤ (x2).toNatClampNeg) then none else
    if (s.2.1 5 (x2).toNatClampNeg) = (-1 : Int32) then (
      XFi_bits_4_l4 n x1 (x2 + (1)) s) else
    XFi_bits_4_l4 n (x1 ||| ((1 : Int32) <<< (x2 &&& 31))) (x2 + (1)) s
def XFi_bits_4  (s : ax_S) : Option (Int32) :=
  match XFi_bits_4_l4 70000 (0 : Int32) (0 : Int32) s with
  | none => none
  | some v1 =>
    some v1
theorem w_XFi_bits_4_l4 (d : Nat) {o : ax_O} : ∀ (n : Nat) (x1 : Int32) (x2 : Int32) (s : ax_S) (r : Int32) (h : XFi_bits_4_l4 n x1 x2 s = some r) (hk0 : ∀ (t0 : Int32), r = t0 → ax_go true none (ax_ev true (d + 0)) ax_m75 32 [none, some (.int t0), none] [] s o), ax_go true none (ax_ev true (d + 0)) ax_m75 4 [some (.ref 4), some (.int x1), some (.int x2)] [] s o := by
  intro n
  induction n with
  | zero => intro x1 x2 s r h hk0; cases h
  | succ n ih =>
    intro x1 x2 s r h hk0
    rw [XFi_bits_4_l4] at h
    by_cases c1 : (12 : Int32) ≤ x2
    · rw [if_pos c1] at h
      have h := Option.some.inj h
      subst r
      exact ax_cut (pc' := 32) (la := [some (.ref 4), some (.int x1), some (.int x2)]) [none, some (.int x1), none] (st' := []) (σ' := s) 3 (And.intro rfl (trivial)) (fun _ hh => (And.intro (fun _ => hh) (fun q => absurd c1 q))) (hk0 _ rfl)
    · rw [if_neg c1] at h
      by_cases c2 : (x2 < 0 ∨ 12 ≤ (x2).toNatClampNeg)
      · rw [if_pos c2] at h; cases h
      · rw [if_neg c2] at h
        by_cases c3 : (s.2.1 5 (x2).toNatClampNeg) = (-1 : Int32)
        · rw [if_pos c3] at h
          exact ax_cut (pc' := 4) (la := [some (.ref 4), some (.int x1), some (.int (x2 + (1)))]) [some (.ref 4), some (.int x1), some (.int (x2 + (1)))] (st' := []) (σ' := s) 11 (And.intro rfl (And.intro rfl (And.intro rfl (trivial)))) (fun _ hh => (And.intro (fun q => absurd q c1) (fun _ => (And.intro c2 (And.intro (fun _ => hh) (fun q => absurd c3 q)))))) (ih x1 (x2 + (1)) s _ h hk0)
        · rw [if_neg c3] at h
          refine ax_cut (pc' := 29) (la := [some (.ref 4), some (.int (x1 ||| ((1 : Int32) <<< (x2 &&& 31)))), some (.int (x2 + (1)))]) [some (.ref 4), some (.int (x1 ||| ((1 : Int32) <<< (x2 &&& 31)))), some (.int (x2 + (1)))] (st' := []) (σ' := s) 16 (And.intro rfl (And.intro rfl (And.intro rfl (trivial)))) (fun _ hh => (And.intro (fun q => absurd q c1) (fun _ => (And.intro c2 (And.intro (fun q => absurd q c3) (fun _ => hh)))))) ?_
          exact ax_cut (pc' := 4) (la := [some (.ref 4), some (.int (x1 ||| ((1 : Int32) <<< (x2 &&& 31)))), some (.int (x2 + (1)))]) [some (.ref 4), some (.int (x1 ||| ((1 : Int32) <<< (x2 &&& 31)))), some (.int (x2 + (1)))] (st' := []) (σ' := s) 1 (And.intro rfl (And.intro rfl (And.intro rfl (trivial)))) (fun _ hh => hh) (ih (x1 ||| ((1 : Int32) <<< (x2 &&& 31))) (x2 + (1)) s _ h hk0)
theorem e_XFi_bits_4 (d : Nat)  {s : ax_S} {r : Int32} (h : XFi_bits_4 s = some r) : ax_ev true (d + 1) 75 [.ref 4] s (some (.int r), s) := by
  refine ⟨Nat.le_of_ble_eq_true rfl, ?_⟩
  show ax_go true none (ax_ev true (d + 0)) ax_m75 0 [some (.ref 4), none, none] [] s _
  unfold XFi_bits_4 at h
  cases hz1 : XFi_bits_4_l4 70000 (0 : Int32) (0 : Int32) s with
  | none => rw [hz1] at h; cases h
  | some z1 =>
  rw [hz1] at h
  refine ax_cut (pc' := 4) (la := [some (.ref 4), some (.int (0 : Int32)), some (.int (0 : Int32))]) [some (.ref 4), some (.int (0 : Int32)), some (.int (0 : Int32))] (st' := []) (σ' := s) 4 (And.intro rfl (And.intro rfl (And.intro rfl (trivial)))) (fun _ hh => hh) (w_XFi_bits_4_l4 d 70000 (0 : Int32) (0 : Int32) s _ hz1 ?_)
  · intro v1 hq
    subst z1
    dsimp only at h
    have h := Option.some.inj h
    subst r
    exact ax_end 2 rfl
def J_bitCount (x0 : Int32)  (s : ax_S) : Int32 :=
  ((((((((x0 - (((x0).toUInt32 >>> (((1 : Int32)).toUInt32 &&& Int32.toUInt32 31)).toInt32 &&& (1431655765 : Int32))) &&& (858993459 : Int32)) + ((((x0 - (((x0).toUInt32 >>> (((1 : Int32)).toUInt32 &&& Int32.toUInt32 31)).toInt32 &&& (1431655765 : Int32)))).toUInt32 >>> (((2 : Int32)).toUInt32 &&& Int32.toUInt32 31)).toInt32 &&& (858993459 : Int32))) + (((((x0 - (((x0).toUInt32 >>> (((1 : Int32)).toUInt32 &&& Int32.toUInt32 31)).toInt32 &&& (1431655765 : Int32))) &&& (858993459 : Int32)) + ((((x0 - (((x0).toUInt32 >>> (((1 : Int32)).toUInt32 &&& Int32.toUInt32 31)).toInt32 &&& (1431655765 : Int32)))).toUInt32 >>> (((2 : Int32)).toUInt32 &&& Int32.toUInt32 31)).toInt32 &&& (858993459 : Int32)))).toUInt32 >>> (((4 : Int32)).toUInt32 &&& Int32.toUInt32 31)).toInt32) &&& (252645135 : Int32)) + (((((((x0 - (((x0).toUInt32 >>> (((1 : Int32)).toUInt32 &&& Int32.toUInt32 31)).toInt32 &&& (1431655765 : Int32))) &&& (858993459 : Int32)) + ((((x0 - (((x0).toUInt32 >>> (((1 : Int32)).toUInt32 &&& Int32.toUInt32 31)).toInt32 &&& (1431655765 : Int32)))).toUInt32 >>> (((2 : Int32)).toUInt32 &&& Int32.toUInt32 31)).toInt32 &&& (858993459 : Int32))) + (((((x0 - (((x0).toUInt32 >>> (((1 : Int32)).toUInt32 &&& Int32.toUInt32 31)).toInt32 &&& (1431655765 : Int32))) &&& (858993459 : Int32)) + ((((x0 - (((x0).toUInt32 >>> (((1 : Int32)).toUInt32 &&& Int32.toUInt32 31)).toInt32 &&& (1431655765 : Int32)))).toUInt32 >>> (((2 : Int32)).toUInt32 &&& Int32.toUInt32 31)).toInt32 &&& (858993459 : Int32)))).toUInt32 >>> (((4 : Int32)).toUInt32 &&& Int32.toUInt32 31)).toInt32) &&& (252645135 : Int32))).toUInt32 >>> (((8 : Int32)).toUInt32 &&& Int32.toUInt32 31)).toInt32) + ((((((((x0 - (((x0).toUInt32 >>> (((1 : Int32)).toUInt32 &&& Int32.toUInt32 31)).toInt32 &&& (1431655765 : Int32))) &&& (858993459 : Int32)) + ((((x0 - (((x0).toUInt32 >>> (((1 : Int32)).toUInt32 &&& Int32.toUInt32 31)).toInt32 &&& (1431655765 : Int32)))).toUInt32 >>> (((2 : Int32)).toUInt32 &&& Int32.toUInt32 31)).toInt32 &&& (858993459 : Int32))) + (((((x0 - (((x0).toUInt32 >>> (((1 : Int32)).toUInt32 &&& Int32.toUInt32 31)).toInt32 &&& (1431655765 : Int32))) &&& (858993459 : Int32)) + ((((x0 - (((x0).toUInt32 >>> (((1 : Int32)).toUInt32 &&& Int32.toUInt32 31)).toInt32 &&& (1431655765 : Int32)))).toUInt32 >>> (((2 : Int32)).toUInt32 &&& Int32.toUInt32 31)).toInt32 &&& (858993459 : Int32)))).toUInt32 >>> (((4 : Int32)).toUInt32 &&& Int32.toUInt32 31)).toInt32) &&& (252645135 : Int32)) + (((((((x0 - (((x0).toUInt32 >>> (((1 : Int32)).toUInt32 &&& Int32.toUInt32 31)).toInt32 &&& (1431655765 : Int32))) &&& (858993459 : Int32)) + ((((x0 - (((x0).toUInt32 >>> (((1 : Int32)).toUInt32 &&& Int32.toUInt32 31)).toInt32 &&& (1431655765 : Int32)))).toUInt32 >>> (((2 : Int32)).toUInt32 &&& Int32.toUInt32 31)).toInt32 &&& (858993459 : Int32))) + (((((x0 - (((x0).toUInt32 >>> (((1 : Int32)).toUInt32 &&& Int32.toUInt32 31)).toInt32 &&& (1431655765 : Int32))) &&& (858993459 : Int32)) + ((((x0 - (((x0).toUInt32 >>> (((1 : Int32)).toUInt32 &&& Int32.toUInt32 31)).toInt32 &&& (1431655765 : Int32)))).toUInt32 >>> (((2 : Int32)).toUInt32 &&& Int32.toUInt32 31)).toInt32 &&& (858993459 : Int32)))).toUInt32 >>> (((4 : Int32)).toUInt32 &&& Int32.toUInt32 31)).toInt32) &&& (252645135 : Int32))).toUInt32 >>> (((8 : Int32)).toUInt32 &&& Int32.toUInt32 31)).toInt32)).toUInt32 >>> (((16 : Int32)).toUInt32 &&& Int32.toUInt32 31)).toInt32) &&& (63 : Int32))
theorem e_J_bitCount (d : Nat) (x0 : Int32) (s : ax_S) : ax_ev true (d + 1) 76 [.int x0] s (some (.int (J_bitCount x0 s)), s) := by
  refine ⟨Nat.le_of_ble_eq_true rfl, ?_⟩
  generalize h : J_bitCount x0 s = r
  show ax_go true none (ax_ev true (d + 0)) ax_m76 0 [some (.int x0)] [] s _
  unfold J_bitCount at h
  refine ax_cut (pc' := 22) (la := [some (.int (x0 - (((x0).toUInt32 >>> (((1 : Int32)).toUInt32 &&& Int32.toUInt32 31)).toInt32 &&& (1431655765 : Int32))))]) [none] (st' := [.int ((((x0 - (((x0).toUInt32 >>> (((1 : Int32)).toUInt32 &&& Int32.toUInt32 31)).toInt32 &&& (1431655765 : Int32)))).toUInt32 >>> (((2 : Int32)).toUInt32 &&& Int32.toUInt32 31)).toInt32 &&& (858993459 : Int32)), .int ((x0 - (((x0).toUInt32 >>> (((1 : Int32)).toUInt32 &&& Int32.toUInt32 31)).toInt32 &&& (1431655765 : Int32))) &&& (858993459 : Int32))]) (σ' := s) 16 (trivial) (fun _ hh => hh) ?_
  refine ax_cut (pc' := 41) (la := [some (.int ((((((x0 - (((x0).toUInt32 >>> (((1 : Int32)).toUInt32 &&& Int32.toUInt32 31)).toInt32 &&& (1431655765 : Int32))) &&& (858993459 : Int32)) + ((((x0 - (((x0).toUInt32 >>> (((1 : Int32)).toUInt32 &&& Int32.toUInt32 31)).toInt32 &&& (1431655765 : Int32)))).toUInt32 >>> (((2 : Int32)).toUInt32 &&& Int32.toUInt32 31)).toInt32 &&& (858993459 : Int32))) + (((((x0 - (((x0).toUInt32 >>> (((1 : Int32)).toUInt32 &&& Int32.toUInt32 31)).toInt32 &&& (1431655765 : Int32))) &&& (858993459 : Int32)) + ((((x0 - (((x0).toUInt32 >>> (((1 : Int32)).toUInt32 &&& Int32.toUInt32 31)).toInt32 &&& (1431655765 : Int32)))).toUInt32 >>> (((2 : Int32)).toUInt32 &&& Int32.toUInt32 31)).toInt32 &&& (858993459 : Int32)))).toUInt32 >>> (((4 : Int32)).toUInt32 &&& Int32.toUInt32 31)).toInt32) &&& (252645135 : Int32)) + (((((((x0 - (((x0).toUInt32 >>> (((1 : Int32)).toUInt32 &&& Int32.toUInt32 31)).toInt32 &&& (1431655765 : Int32))) &&& (858993459 : Int32)) + ((((x0 - (((x0).toUInt32 >>> (((1 : Int32)).toUInt32 &&& Int32.toUInt32 31)).toInt32 &&& (1431655765 : Int32)))).toUInt32 >>> (((2 : Int32)).toUInt32 &&& Int32.toUInt32 31)).toInt32 &&& (858993459 : Int32))) + (((((x0 - (((x0).toUInt32 >>> (((1 : Int32)).toUInt32 &&& Int32.toUInt32 31)).toInt32 &&& (1431655765 : Int32))) &&& (858993459 : Int32)) + ((((x0 - (((x0).toUInt32 >>> (((1 : Int32)).toUInt32 &&& Int32.toUInt32 31)).toInt32 &&& (1431655765 : Int32)))).toUInt32 >>> (((2 : Int32)).toUInt32 &&& Int32.toUInt32 31)).toInt32 &&& (858993459 : Int32)))).toUInt32 >>> (((4 : Int32)).toUInt32 &&& Int32.toUInt32 31)).toInt32) &&& (252645135 : Int32))).toUInt32 >>> (((8 : Int32)).toUInt32 &&& Int32.toUInt32 31)).toInt32))]) [some (.int ((((((x0 - (((x0).toUInt32 >>> (((1 : Int32)).toUInt32 &&& Int32.toUInt32 31)).toInt32 &&& (1431655765 : Int32))) &&& (858993459 : Int32)) + ((((x0 - (((x0).toUInt32 >>> (((1 : Int32)).toUInt32 &&& Int32.toUInt32 31)).toInt32 &&& (1431655765 : Int32)))).toUInt32 >>> (((2 : Int32)).toUInt32 &&& Int32.toUInt32 31)).toInt32 &&& (858993459 : Int32))) + (((((x0 - (((x0).toUInt32 >>> (((1 : Int32)).toUInt32 &&& Int32.toUInt32 31)).toInt32 &&& (1431655765 : Int32))) &&& (858993459 : Int32)) + ((((x0 - (((x0).toUInt32 >>> (((1 : Int32)).toUInt32 &&& Int32.toUInt32 31)).toInt32 &&& (1431655765 : Int32)))).toUInt32 >>> (((2 : Int32)).toUInt32 &&& Int32.toUInt32 31)).toInt32 &&& (858993459 : Int32)))).toUInt32 >>> (((4 : Int32)).toUInt32 &&& Int32.toUInt32 31)).toInt32) &&& (252645135 : Int32)) + (((((((x0 - (((x0).toUInt32 >>> (((1 : Int32)).toUInt32 &&& Int32.toUInt32 31)).toInt32 &&& (1431655765 : Int32))) &&& (858993459 : Int32)) + ((((x0 - (((x0).toUInt32 >>> (((1 : Int32)).toUInt32 &&& Int32.toUInt32 31)).toInt32 &&& (1431655765 : Int32)))).toUInt32 >>> (((2 : Int32)).toUInt32 &&& Int32.toUInt32 31)).toInt32 &&& (858993459 : Int32))) + (((((x0 - (((x0).toUInt32 >>> (((1 : Int32)).toUInt32 &&& Int32.toUInt32 31)).toInt32 &&& (1431655765 : Int32))) &&& (858993459 : Int32)) + ((((x0 - (((x0).toUInt32 >>> (((1 : Int32)).toUInt32 &&& Int32.toUInt32 31)).toInt32 &&& (1431655765 : Int32)))).toUInt32 >>> (((2 : Int32)).toUInt32 &&& Int32.toUInt32 31)).toInt32 &&& (858993459 : Int32)))).toUInt32 >>> (((4 : Int32)).toUInt32 &&& Int32.toUInt32 31)).toInt32) &&& (252645135 : Int32))).toUInt32 >>> (((8 : Int32)).toUInt32 &&& Int32.toUInt32 31)).toInt32))] (st' := []) (σ' := s) 16 (And.intro rfl (trivial)) (fun _ hh => hh) ?_
  have h := h
  subst r
  exact ax_end 10 rfl
