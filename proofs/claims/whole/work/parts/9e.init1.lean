/-! constructors, 1 -/
theorem i_1_1 (d : Nat) (f : Nat → Nat → Int32) (g : Nat → Nat → Int64) (h : iH 2 f iL_2) : ∃ f2 g2, ax_ev false (d + 1) 1 [.ref 1] (2, f, g) (none, (3, f2, g2)) ∧ iH 3 f2 iL_4 := by
  refine i_ev (Nat.le_of_ble_eq_true rfl) ?_
  show ∃ f2 g2, ax_go false none (ax_ev false (d + 0)) ax_m1 0 [some (.ref 1)] [] (2, f, g) (none, (3, f2, g2)) ∧ iH 3 f2 iL_4
  refine ax_cutE (pc' := 10) (la := [some (.ref 1)]) [some (.ref 1)] (st' := [.ref 2, .ref 1]) (σ' := (ax_nc (2, f, g))) 5 (And.intro rfl (trivial)) (fun _ _ hh => (And.intro rfl hh)) ?_
  obtain ⟨f1, g1, e, h1⟩ : ∃ F2 G2, ax_nc (2, f, g) = (3, F2, G2) ∧ iH 3 F2 iL_3 := i_n h g
  rw [e]; clear e
  refine ax_cutE (pc' := 13) (la := [some (.ref 1)]) [some (.ref 1)] (st' := []) (σ' := (ax_sI (3, f1, g1) 1 0 1)) 1 (And.intro rfl (trivial)) (fun _ _ hh => hh) ?_
  obtain ⟨f2, e, h2⟩ : ∃ F2, ax_sI (3, f1, g1) 1 0 1 = (3, F2, g1) ∧ iH 3 F2 iL_4 := i_w h1 (by decide)
  rw [e]; clear e
  exact ⟨f2, g1, ax_endF 1 rfl, h2⟩
theorem i_4_5 (d : Nat) (f : Nat → Nat → Int32) (g : Nat → Nat → Int64) (h : iH 10 f iL_17) : ∃ f2 g2, ax_ev false (d + 1) 4 [.ref 5, .int (-1 : Int32)] (10, f, g) (none, (10, f2, g2)) ∧ iH 10 f2 iL_29 := by
  refine i_ev (Nat.le_of_ble_eq_true rfl) ?_
  show ∃ f2 g2, ax_go false none (ax_ev false (d + 0)) ax_m4 0 [some (.ref 5), some (.int (-1 : Int32)), none, none] [] (10, f, g) (none, (10, f2, g2)) ∧ iH 10 f2 iL_29
  refine ax_cutE (pc' := 12) (la := [some (.ref 5), some (.int (-1 : Int32)), some (.int (0 : Int32)), some (.int (12 : Int32))]) [some (.ref 5), some (.int (-1 : Int32)), some (.int (0 : Int32)), some (.int (12 : Int32))] (st' := [.int (0 : Int32), .ref 5]) (σ' := (10, f, g)) 10 (And.intro rfl (And.intro rfl (And.intro rfl (And.intro rfl (trivial))))) (fun _ _ hh => (And.intro (fun q => absurd q (show ¬ ((12 : Int32) ≤ (0 : Int32) : Prop) by decide)) (fun _ => hh))) ?_
  refine ax_cutE (pc' := 14) (la := [some (.ref 5), some (.int (-1 : Int32)), some (.int (0 : Int32)), some (.int (12 : Int32))]) [some (.ref 5), some (.int (-1 : Int32)), some (.int (0 : Int32)), some (.int (12 : Int32))] (st' := []) (σ' := (ax_sI (10, f, g) 5 0 (-1 : Int32))) 2 (And.intro rfl (And.intro rfl (And.intro rfl (And.intro rfl (trivial))))) (fun _ _ hh => (And.intro (show ¬ ((0 : Int32) < 0 ∨ 12 ≤ ((0 : Int32)).toNatClampNeg) by decide) hh)) ?_
  obtain ⟨f1, e, h1⟩ : ∃ F2, ax_sI (10, f, g) 5 0 (-1 : Int32) = (10, F2, g) ∧ iH 10 F2 iL_18 := i_w h (by decide)
  rw [e]; clear e
  refine ax_cutE (pc' := 14) (la := [some (.ref 5), some (.int (-1 : Int32)), some (.int (1 : Int32)), some (.int (12 : Int32))]) [some (.ref 5), some (.int (-1 : Int32)), some (.int (1 : Int32)), some (.int (12 : Int32))] (st' := []) (σ' := (ax_sI (10, f1, g) 5 1 (-1 : Int32))) 9 (And.intro rfl (And.intro rfl (And.intro rfl (And.intro rfl (trivial))))) (fun _ _ hh => (And.intro (fun q => absurd q (show ¬ ((12 : Int32) ≤ (1 : Int32) : Prop) by decide)) (fun _ => (And.intro (show ¬ ((1 : Int32) < 0 ∨ 12 ≤ ((1 : Int32)).toNatClampNeg) by decide) hh)))) ?_
  obtain ⟨f2, e, h2⟩ : ∃ F2, ax_sI (10, f1, g) 5 1 (-1 : Int32) = (10, F2, g) ∧ iH 10 F2 iL_19 := i_w h1 (by decide)
  rw [e]; clear e
  refine ax_cutE (pc' := 14) (la := [some (.ref 5), some (.int (-1 : Int32)), some (.int (2 : Int32)), some (.int (12 : Int32))]) [some (.ref 5), some (.int (-1 : Int32)), some (.int (2 : Int32)), some (.int (12 : Int32))] (st' := []) (σ' := (ax_sI (10, f2, g) 5 2 (-1 : Int32))) 9 (And.intro rfl (And.intro rfl (And.intro rfl (And.intro rfl (trivial))))) (fun _ _ hh => (And.intro (fun q => absurd q (show ¬ ((12 : Int32) ≤ (2 : Int32) : Prop) by decide)) (fun _ => (And.intro (show ¬ ((2 : Int32) < 0 ∨ 12 ≤ ((2 : Int32)).toNatClampNeg) by decide) hh)))) ?_
  obtain ⟨f3, e, h3⟩ : ∃ F2, ax_sI (10, f2, g) 5 2 (-1 : Int32) = (10, F2, g) ∧ iH 10 F2 iL_20 := i_w h2 (by decide)
  rw [e]; clear e
  refine ax_cutE (pc' := 14) (la := [some (.ref 5), some (.int (-1 : Int32)), some (.int (3 : Int32)), some (.int (12 : Int32))]) [some (.ref 5), some (.int (-1 : Int32)), some (.int (3 : Int32)), some (.int (12 : Int32))] (st' := []) (σ' := (ax_sI (10, f3, g) 5 3 (-1 : Int32))) 9 (And.intro rfl (And.intro rfl (And.intro rfl (And.intro rfl (trivial))))) (fun _ _ hh => (And.intro (fun q => absurd q (show ¬ ((12 : Int32) ≤ (3 : Int32) : Prop) by decide)) (fun _ => (And.intro (show ¬ ((3 : Int32) < 0 ∨ 12 ≤ ((3 : Int32)).toNatClampNeg) by decide) hh)))) ?_
  obtain ⟨f4, e, h4⟩ : ∃ F2, ax_sI (10, f3, g) 5 3 (-1 : Int32) = (10, F2, g) ∧ iH 10 F2 iL_21 := i_w h3 (by decide)
  rw [e]; clear e
  refine ax_cutE (pc' := 14) (la := [some (.ref 5), some (.int (-1 : Int32)), some (.int (4 : Int32)), some (.int (12 : Int32))]) [some (.ref 5), some (.int (-1 : Int32)), some (.int (4 : Int32)), some (.int (12 : Int32))] (st' := []) (σ' := (ax_sI (10, f4, g) 5 4 (-1 : Int32))) 9 (And.intro rfl (And.intro rfl (And.intro rfl (And.intro rfl (trivial))))) (fun _ _ hh => (And.intro (fun q => absurd q (show ¬ ((12 : Int32) ≤ (4 : Int32) : Prop) by decide)) (fun _ => (And.intro (show ¬ ((4 : Int32) < 0 ∨ 12 ≤ ((4 : Int32)).toNatClampNeg) by decide) hh)))) ?_
  obtain ⟨f5, e, h5⟩ : ∃ F2, ax_sI (10, f4, g) 5 4 (-1 : Int32) = (10, F2, g) ∧ iH 10 F2 iL_22 := i_w h4 (by decide)
  rw [e]; clear e
  refine ax_cutE (pc' := 14) (la := [some (.ref 5), some (.int (-1 : Int32)), some (.int (5 : Int32)), some (.int (12 : Int32))]) [some (.ref 5), some (.int (-1 : Int32)), some (.int (5 : Int32)), some (.int (12 : Int32))] (st' := []) (σ' := (ax_sI (10, f5, g) 5 5 (-1 : Int32))) 9 (And.intro rfl (And.intro rfl (And.intro rfl (And.intro rfl (trivial))))) (fun _ _ hh => (And.intro (fun q => absurd q (show ¬ ((12 : Int32) ≤ (5 : Int32) : Prop) by decide)) (fun _ => (And.intro (show ¬ ((5 : Int32) < 0 ∨ 12 ≤ ((5 : Int32)).toNatClampNeg) by decide) hh)))) ?_
  obtain ⟨f6, e, h6⟩ : ∃ F2, ax_sI (10, f5, g) 5 5 (-1 : Int32) = (10, F2, g) ∧ iH 10 F2 iL_23 := i_w h5 (by decide)
  rw [e]; clear e
  refine ax_cutE (pc' := 14) (la := [some (.ref 5), some (.int (-1 : Int32)), some (.int (6 : Int32)), some (.int (12 : Int32))]) [some (.ref 5), some (.int (-1 : Int32)), some (.int (6 : Int32)), some (.int (12 : Int32))] (st' := []) (σ' := (ax_sI (10, f6, g) 5 6 (-1 : Int32))) 9 (And.intro rfl (And.intro rfl (And.intro rfl (And.intro rfl (trivial))))) (fun _ _ hh => (And.intro (fun q => absurd q (show ¬ ((12 : Int32) ≤ (6 : Int32) : Prop) by decide)) (fun _ => (And.intro (show ¬ ((6 : Int32) < 0 ∨ 12 ≤ ((6 : Int32)).toNatClampNeg) by decide) hh)))) ?_
  obtain ⟨f7, e, h7⟩ : ∃ F2, ax_sI (10, f6, g) 5 6 (-1 : Int32) = (10, F2, g) ∧ iH 10 F2 iL_24 := i_w h6 (by decide)
  rw [e]; clear e
  refine ax_cutE (pc' := 14) (la := [some (.ref 5), some (.int (-1 : Int32)), some (.int (7 : Int32)), some (.int (12 : Int32))]) [some (.ref 5), some (.int (-1 : Int32)), some (.int (7 : Int32)), some (.int (12 : Int32))] (st' := []) (σ' := (ax_sI (10, f7, g) 5 7 (-1 : Int32))) 9 (And.intro rfl (And.intro rfl (And.intro rfl (And.intro rfl (trivial))))) (fun _ _ hh => (And.intro (fun q => absurd q (show ¬ ((12 : Int32) ≤ (7 : Int32) : Prop) by decide)) (fun _ => (And.intro (show ¬ ((7 : Int32) < 0 ∨ 12 ≤ ((7 : Int32)).toNatClampNeg) by decide) hh)))) ?_
  obtain ⟨f8, e, h8⟩ : ∃ F2, ax_sI (10, f7, g) 5 7 (-1 : Int32) = (10, F2, g) ∧ iH 10 F2 iL_25 := i_w h7 (by decide)
  rw [e]; clear e
  refine ax_cutE (pc' := 14) (la := [some (.ref 5), some (.int (-1 : Int32)), some (.int (8 : Int32)), some (.int (12 : Int32))]) [some (.ref 5), some (.int (-1 : Int32)), some (.int (8 : Int32)), some (.int (12 : Int32))] (st' := []) (σ' := (ax_sI (10, f8, g) 5 8 (-1 : Int32))) 9 (And.intro rfl (And.intro rfl (And.intro rfl (And.intro rfl (trivial))))) (fun _ _ hh => (And.intro (fun q => absurd q (show ¬ ((12 : Int32) ≤ (8 : Int32) : Prop) by decide)) (fun _ => (And.intro (show ¬ ((8 : Int32) < 0 ∨ 12 ≤ ((8 : Int32)).toNatClampNeg) by decide) hh)))) ?_
  obtain ⟨f9, e, h9⟩ : ∃ F2, ax_sI (10, f8, g) 5 8 (-1 : Int32) = (10, F2, g) ∧ iH 10 F2 iL_26 := i_w h8 (by decide)
  rw [e]; clear e
  refine ax_cutE (pc' := 14) (la := [some (.ref 5), some (.int (-1 : Int32)), some (.int (9 : Int32)), some (.int (12 : Int32))]) [some (.ref 5), some (.int (-1 : Int32)), some (.int (9 : Int32)), some (.int (12 : Int32))] (st' := []) (σ' := (ax_sI (10, f9, g) 5 9 (-1 : Int32))) 9 (And.intro rfl (And.intro rfl (And.intro rfl (And.intro rfl (trivial))))) (fun _ _ hh => (And.intro (fun q => absurd q (show ¬ ((12 : Int32) ≤ (9 : Int32) : Prop) by decide)) (fun _ => (And.intro (show ¬ ((9 : Int32) < 0 ∨ 12 ≤ ((9 : Int32)).toNatClampNeg) by decide) hh)))) ?_
  obtain ⟨f10, e, h10⟩ : ∃ F2, ax_sI (10, f9, g) 5 9 (-1 : Int32) = (10, F2, g) ∧ iH 10 F2 iL_27 := i_w h9 (by decide)
  rw [e]; clear e
  refine ax_cutE (pc' := 14) (la := [some (.ref 5), some (.int (-1 : Int32)), some (.int (10 : Int32)), some (.int (12 : Int32))]) [some (.ref 5), some (.int (-1 : Int32)), some (.int (10 : Int32)), some (.int (12 : Int32))] (st' := []) (σ' := (ax_sI (10, f10, g) 5 10 (-1 : Int32))) 9 (And.intro rfl (And.intro rfl (And.intro rfl (And.intro rfl (trivial))))) (fun _ _ hh => (And.intro (fun q => absurd q (show ¬ ((12 : Int32) ≤ (10 : Int32) : Prop) by decide)) (fun _ => (And.intro (show ¬ ((10 : Int32) < 0 ∨ 12 ≤ ((10 : Int32)).toNatClampNeg) by decide) hh)))) ?_
  obtain ⟨f11, e, h11⟩ : ∃ F2, ax_sI (10, f10, g) 5 10 (-1 : Int32) = (10, F2, g) ∧ iH 10 F2 iL_28 := i_w h10 (by decide)
  rw [e]; clear e
  refine ax_cutE (pc' := 14) (la := [some (.ref 5), some (.int (-1 : Int32)), some (.int (11 : Int32)), some (.int (12 : Int32))]) [some (.ref 5), some (.int (-1 : Int32)), some (.int (11 : Int32)), some (.int (12 : Int32))] (st' := []) (σ' := (ax_sI (10, f11, g) 5 11 (-1 : Int32))) 9 (And.intro rfl (And.intro rfl (And.intro rfl (And.intro rfl (trivial))))) (fun _ _ hh => (And.intro (fun q => absurd q (show ¬ ((12 : Int32) ≤ (11 : Int32) : Prop) by decide)) (fun _ => (And.intro (show ¬ ((11 : Int32) < 0 ∨ 12 ≤ ((11 : Int32)).toNatClampNeg) by decide) hh)))) ?_
  obtain ⟨f12, e, h12⟩ : ∃ F2, ax_sI (10, f11, g) 5 11 (-1 : Int32) = (10, F2, g) ∧ iH 10 F2 iL_29 := i_w h11 (by decide)
  rw [e]; clear e
  exact ⟨f12, g, ax_endF 6 (And.intro (fun _ => rfl) (fun q => absurd (show ((12 : Int32) ≤ (12 : Int32) : Prop) by decide) q)), h12⟩
theorem i_3_4 (d : Nat) (f : Nat → Nat → Int32) (g : Nat → Nat → Int64) (h : iH 5 f iL_7) : ∃ f2 g2, ax_ev false (d + 2) 3 [.ref 4] (5, f, g) (none, (10, f2, g2)) ∧ iH 10 f2 iL_29 := by
  refine i_ev (Nat.le_of_ble_eq_true rfl) ?_
  show ∃ f2 g2, ax_go false none (ax_ev false (d + 1)) ax_m3 0 [some (.ref 4)] [] (5, f, g) (none, (10, f2, g2)) ∧ iH 10 f2 iL_29
  refine ax_cutE (pc' := 9) (la := [some (.ref 4)]) [some (.ref 4)] (st' := [.ref 5, .ref 4]) (σ' := (ax_nc (5, f, g))) 5 (And.intro rfl (trivial)) (fun _ _ hh => (And.intro rfl hh)) ?_
  obtain ⟨f1, g1, e, h1⟩ : ∃ F2 G2, ax_nc (5, f, g) = (6, F2, G2) ∧ iH 6 F2 iL_8 := i_n h g
  rw [e]; clear e
  refine ax_cutE (pc' := 12) (la := [some (.ref 4)]) [some (.ref 4)] (st' := []) (σ' := (ax_sI (6, f1, g1) 4 0 1)) 1 (And.intro rfl (trivial)) (fun _ _ hh => hh) ?_
  obtain ⟨f2, e, h2⟩ : ∃ F2, ax_sI (6, f1, g1) 4 0 1 = (6, F2, g1) ∧ iH 6 F2 iL_9 := i_w h1 (by decide)
  rw [e]; clear e
  refine ax_cutE (pc' := 17) (la := [some (.ref 4)]) [some (.ref 4)] (st' := [.ref 6, .ref 4]) (σ' := (ax_nc (6, f2, g1))) 3 (And.intro rfl (trivial)) (fun _ _ hh => (And.intro rfl hh)) ?_
  obtain ⟨f3, g3, e, h3⟩ : ∃ F2 G2, ax_nc (6, f2, g1) = (7, F2, G2) ∧ iH 7 F2 iL_10 := i_n h2 g1
  rw [e]; clear e
  refine ax_cutE (pc' := 20) (la := [some (.ref 4)]) [some (.ref 4)] (st' := []) (σ' := (ax_sI (7, f3, g3) 4 1 1)) 1 (And.intro rfl (trivial)) (fun _ _ hh => hh) ?_
  obtain ⟨f4, e, h4⟩ : ∃ F2, ax_sI (7, f3, g3) 4 1 1 = (7, F2, g3) ∧ iH 7 F2 iL_11 := i_w h3 (by decide)
  rw [e]; clear e
  refine ax_cutE (pc' := 25) (la := [some (.ref 4)]) [some (.ref 4)] (st' := [.ref 7, .ref 4]) (σ' := (ax_nc (7, f4, g3))) 3 (And.intro rfl (trivial)) (fun _ _ hh => (And.intro rfl hh)) ?_
  obtain ⟨f5, g5, e, h5⟩ : ∃ F2 G2, ax_nc (7, f4, g3) = (8, F2, G2) ∧ iH 8 F2 iL_12 := i_n h4 g3
  rw [e]; clear e
  refine ax_cutE (pc' := 28) (la := [some (.ref 4)]) [some (.ref 4)] (st' := []) (σ' := (ax_sI (8, f5, g5) 4 2 1)) 1 (And.intro rfl (trivial)) (fun _ _ hh => hh) ?_
  obtain ⟨f6, e, h6⟩ : ∃ F2, ax_sI (8, f5, g5) 4 2 1 = (8, F2, g5) ∧ iH 8 F2 iL_13 := i_w h5 (by decide)
  rw [e]; clear e
  refine ax_cutE (pc' := 33) (la := [some (.ref 4)]) [some (.ref 4)] (st' := [.ref 8, .ref 4]) (σ' := (ax_nc (8, f6, g5))) 3 (And.intro rfl (trivial)) (fun _ _ hh => (And.intro rfl hh)) ?_
  obtain ⟨f7, g7, e, h7⟩ : ∃ F2 G2, ax_nc (8, f6, g5) = (9, F2, G2) ∧ iH 9 F2 iL_14 := i_n h6 g5
  rw [e]; clear e
  refine ax_cutE (pc' := 36) (la := [some (.ref 4)]) [some (.ref 4)] (st' := []) (σ' := (ax_sI (9, f7, g7) 4 3 1)) 1 (And.intro rfl (trivial)) (fun _ _ hh => hh) ?_
  obtain ⟨f8, e, h8⟩ : ∃ F2, ax_sI (9, f7, g7) 4 3 1 = (9, F2, g7) ∧ iH 9 F2 iL_15 := i_w h7 (by decide)
  rw [e]; clear e
  refine ax_cutE (pc' := 41) (la := [some (.ref 4)]) [some (.ref 4)] (st' := [.ref 9, .ref 4]) (σ' := (ax_nc (9, f8, g7))) 3 (And.intro rfl (trivial)) (fun _ _ hh => (And.intro rfl hh)) ?_
  obtain ⟨f9, g9, e, h9⟩ : ∃ F2 G2, ax_nc (9, f8, g7) = (10, F2, G2) ∧ iH 10 F2 iL_16 := i_n h8 g7
  rw [e]; clear e
  refine ax_cutE (pc' := 44) (la := [some (.ref 4)]) [some (.ref 4)] (st' := []) (σ' := (ax_sI (10, f9, g9) 4 4 1)) 1 (And.intro rfl (trivial)) (fun _ _ hh => hh) ?_
  obtain ⟨f10, e, h10⟩ : ∃ F2, ax_sI (10, f9, g9) 4 4 1 = (10, F2, g9) ∧ iH 10 F2 iL_17 := i_w h9 (by decide)
  rw [e]; clear e
  obtain ⟨f11, g11, ev11, h11⟩ := i_4_5 (d + 0) f10 g9 h10
  refine ax_cutE (pc' := 52) (la := [some (.ref 4)]) [some (.ref 4)] (st' := []) (σ' := (10, f11, g11)) 4 (And.intro rfl (trivial)) (fun _ _ hh => (And.intro (i_r h10 (by decide) (by decide +kernel)) (Exists.intro (none, (10, f11, g11)) (And.intro ev11 hh)))) ?_
  exact ⟨f11, g11, ax_endF 1 rfl, h11⟩
theorem i_2_3 (d : Nat) (f : Nat → Nat → Int32) (g : Nat → Nat → Int64) (h : iH 4 f iL_6) : ∃ f2 g2, ax_ev false (d + 3) 2 [.ref 3] (4, f, g) (none, (14, f2, g2)) ∧ iH 14 f2 iL_39 := by
  refine i_ev (Nat.le_of_ble_eq_true rfl) ?_
  show ∃ f2 g2, ax_go false none (ax_ev false (d + 2)) ax_m2 0 [some (.ref 3)] [] (4, f, g) (none, (14, f2, g2)) ∧ iH 14 f2 iL_39
  refine ax_cutE (pc' := 8) (la := [some (.ref 3)]) [some (.ref 3)] (st' := [.ref 4, .ref 3]) (σ' := (ax_nc (4, f, g))) 4 (And.intro rfl (trivial)) (fun _ _ hh => hh) ?_
  obtain ⟨f1, g1, e, h1⟩ : ∃ F2 G2, ax_nc (4, f, g) = (5, F2, G2) ∧ iH 5 F2 iL_7 := i_n h g
  rw [e]; clear e
  obtain ⟨f2, g2, ev2, h2⟩ := i_3_4 (d + 0) f1 g1 h1
  refine ax_cutE (pc' := 12) (la := [some (.ref 3)]) [some (.ref 3)] (st' := [.ref 4, .ref 3]) (σ' := (10, f2, g2)) 2 (And.intro rfl (trivial)) (fun _ _ hh => (Exists.intro (none, (10, f2, g2)) (And.intro ev2 hh))) ?_
  refine ax_cutE (pc' := 15) (la := [some (.ref 3)]) [some (.ref 3)] (st' := []) (σ' := (ax_sI (10, f2, g2) 3 0 1)) 1 (And.intro rfl (trivial)) (fun _ _ hh => hh) ?_
  obtain ⟨f3, e, h3⟩ : ∃ F2, ax_sI (10, f2, g2) 3 0 1 = (10, F2, g2) ∧ iH 10 F2 iL_30 := i_w h2 (by decide)
  rw [e]; clear e
  refine ax_cutE (pc' := 20) (la := [some (.ref 3)]) [some (.ref 3)] (st' := [.ref 10, .ref 3]) (σ' := (ax_nc (10, f3, g2))) 3 (And.intro rfl (trivial)) (fun _ _ hh => (And.intro rfl hh)) ?_
  obtain ⟨f4, g4, e, h4⟩ : ∃ F2 G2, ax_nc (10, f3, g2) = (11, F2, G2) ∧ iH 11 F2 iL_31 := i_n h3 g2
  rw [e]; clear e
  refine ax_cutE (pc' := 23) (la := [some (.ref 3)]) [some (.ref 3)] (st' := []) (σ' := (ax_sI (11, f4, g4) 3 1 1)) 1 (And.intro rfl (trivial)) (fun _ _ hh => hh) ?_
  obtain ⟨f5, e, h5⟩ : ∃ F2, ax_sI (11, f4, g4) 3 1 1 = (11, F2, g4) ∧ iH 11 F2 iL_32 := i_w h4 (by decide)
  rw [e]; clear e
  refine ax_cutE (pc' := 28) (la := [some (.ref 3)]) [some (.ref 3)] (st' := [.ref 11, .ref 3]) (σ' := (ax_nc (11, f5, g4))) 3 (And.intro rfl (trivial)) (fun _ _ hh => (And.intro rfl hh)) ?_
  obtain ⟨f6, g6, e, h6⟩ : ∃ F2 G2, ax_nc (11, f5, g4) = (12, F2, G2) ∧ iH 12 F2 iL_33 := i_n h5 g4
  rw [e]; clear e
  refine ax_cutE (pc' := 31) (la := [some (.ref 3)]) [some (.ref 3)] (st' := []) (σ' := (ax_sI (12, f6, g6) 3 2 1)) 1 (And.intro rfl (trivial)) (fun _ _ hh => hh) ?_
  obtain ⟨f7, e, h7⟩ : ∃ F2, ax_sI (12, f6, g6) 3 2 1 = (12, F2, g6) ∧ iH 12 F2 iL_34 := i_w h6 (by decide)
  rw [e]; clear e
  refine ax_cutE (pc' := 36) (la := [some (.ref 3)]) [some (.ref 3)] (st' := [.ref 12, .ref 3]) (σ' := (ax_nc (12, f7, g6))) 3 (And.intro rfl (trivial)) (fun _ _ hh => (And.intro rfl hh)) ?_
  obtain ⟨f8, g8, e, h8⟩ : ∃ F2 G2, ax_nc (12, f7, g6) = (13, F2, G2) ∧ iH 13 F2 iL_35 := i_n h7 g6
  rw [e]; clear e
  refine ax_cutE (pc' := 39) (la := [some (.ref 3)]) [some (.ref 3)] (st' := []) (σ' := (ax_sI (13, f8, g8) 3 3 1)) 1 (And.intro rfl (trivial)) (fun _ _ hh => hh) ?_
  obtain ⟨f9, e, h9⟩ : ∃ F2, ax_sI (13, f8, g8) 3 3 1 = (13, F2, g8) ∧ iH 13 F2 iL_36 := i_w h8 (by decide)
  rw [e]; clear e
  refine ax_cutE (pc' := 45) (la := [some (.ref 3)]) [some (.ref 3)] (st' := [.ref 13, .ref 3]) (σ' := (ax_nc (13, f9, g8))) 3 (And.intro rfl (trivial)) (fun _ _ hh => (And.intro rfl hh)) ?_
  obtain ⟨f10, g10, e, h10⟩ : ∃ F2 G2, ax_nc (13, f9, g8) = (14, F2, G2) ∧ iH 14 F2 iL_37 := i_n h9 g8
  rw [e]; clear e
  refine ax_cutE (pc' := 48) (la := [some (.ref 3)]) [some (.ref 3)] (st' := []) (σ' := (ax_sI (14, f10, g10) 3 4 1)) 1 (And.intro rfl (trivial)) (fun _ _ hh => hh) ?_
  obtain ⟨f11, e, h11⟩ : ∃ F2, ax_sI (14, f10, g10) 3 4 1 = (14, F2, g10) ∧ iH 14 F2 iL_38 := i_w h10 (by decide)
  rw [e]; clear e
  refine ax_cutE (pc' := 53) (la := [some (.ref 3)]) [some (.ref 3)] (st' := []) (σ' := (ax_sI (14, f11, g10) 3 6 (1 : Int32))) 3 (And.intro rfl (trivial)) (fun _ _ hh => hh) ?_
  obtain ⟨f12, e, h12⟩ : ∃ F2, ax_sI (14, f11, g10) 3 6 (1 : Int32) = (14, F2, g10) ∧ iH 14 F2 iL_39 := i_w h11 (by decide)
  rw [e]; clear e
  exact ⟨f12, g10, ax_endF 1 rfl, h12⟩
theorem i_4_16 (d : Nat) (f : Nat → Nat → Int32) (g : Nat → Nat → Int64) (h : iH 21 f iL_52) : ∃ f2 g2, ax_ev false (d + 1) 4 [.ref 16, .int (-1 : Int32)] (21, f, g) (none, (21, f2, g2)) ∧ iH 21 f2 iL_64 := by
  refine i_ev (Nat.le_of_ble_eq_true rfl) ?_
  show ∃ f2 g2, ax_go false none (ax_ev false (d + 0)) ax_m4 0 [some (.ref 16), some (.int (-1 : Int32)), none, none] [] (21, f, g) (none, (21, f2, g2)) ∧ iH 21 f2 iL_64
  refine ax_cutE (pc' := 12) (la := [some (.ref 16), some (.int (-1 : Int32)), some (.int (0 : Int32)), some (.int (12 : Int32))]) [some (.ref 16), some (.int (-1 : Int32)), some (.int (0 : Int32)), some (.int (12 : Int32))] (st' := [.int (0 : Int32), .ref 16]) (σ' := (21, f, g)) 10 (And.intro rfl (And.intro rfl (And.intro rfl (And.intro rfl (trivial))))) (fun _ _ hh => (And.intro (fun q => absurd q (show ¬ ((12 : Int32) ≤ (0 : Int32) : Prop) by decide)) (fun _ => hh))) ?_
  refine ax_cutE (pc' := 14) (la := [some (.ref 16), some (.int (-1 : Int32)), some (.int (0 : Int32)), some (.int (12 : Int32))]) [some (.ref 16), some (.int (-1 : Int32)), some (.int (0 : Int32)), some (.int (12 : Int32))] (st' := []) (σ' := (ax_sI (21, f, g) 16 0 (-1 : Int32))) 2 (And.intro rfl (And.intro rfl (And.intro rfl (And.intro rfl (trivial))))) (fun _ _ hh => (And.intro (show ¬ ((0 : Int32) < 0 ∨ 12 ≤ ((0 : Int32)).toNatClampNeg) by decide) hh)) ?_
  obtain ⟨f1, e, h1⟩ : ∃ F2, ax_sI (21, f, g) 16 0 (-1 : Int32) = (21, F2, g) ∧ iH 21 F2 iL_53 := i_w h (by decide)
  rw [e]; clear e
  refine ax_cutE (pc' := 14) (la := [some (.ref 16), some (.int (-1 : Int32)), some (.int (1 : Int32)), some (.int (12 : Int32))]) [some (.ref 16), some (.int (-1 : Int32)), some (.int (1 : Int32)), some (.int (12 : Int32))] (st' := []) (σ' := (ax_sI (21, f1, g) 16 1 (-1 : Int32))) 9 (And.intro rfl (And.intro rfl (And.intro rfl (And.intro rfl (trivial))))) (fun _ _ hh => (And.intro (fun q => absurd q (show ¬ ((12 : Int32) ≤ (1 : Int32) : Prop) by decide)) (fun _ => (And.intro (show ¬ ((1 : Int32) < 0 ∨ 12 ≤ ((1 : Int32)).toNatClampNeg) by decide) hh)))) ?_
  obtain ⟨f2, e, h2⟩ : ∃ F2, ax_sI (21, f1, g) 16 1 (-1 : Int32) = (21, F2, g) ∧ iH 21 F2 iL_54 := i_w h1 (by decide)
  rw [e]; clear e
  refine ax_cutE (pc' := 14) (la := [some (.ref 16), some (.int (-1 : Int32)), some (.int (2 : Int32)), some (.int (12 : Int32))]) [some (.ref 16), some (.int (-1 : Int32)), some (.int (2 : Int32)), some (.int (12 : Int32))] (st' := []) (σ' := (ax_sI (21, f2, g) 16 2 (-1 : Int32))) 9 (And.intro rfl (And.intro rfl (And.intro rfl (And.intro rfl (trivial))))) (fun _ _ hh => (And.intro (fun q => absurd q (show ¬ ((12 : Int32) ≤ (2 : Int32) : Prop) by decide)) (fun _ => (And.intro (show ¬ ((2 : Int32) < 0 ∨ 12 ≤ ((2 : Int32)).toNatClampNeg) by decide) hh)))) ?_
  obtain ⟨f3, e, h3⟩ : ∃ F2, ax_sI (21, f2, g) 16 2 (-1 : Int32) = (21, F2, g) ∧ iH 21 F2 iL_55 := i_w h2 (by decide)
  rw [e]; clear e
  refine ax_cutE (pc' := 14) (la := [some (.ref 16), some (.int (-1 : Int32)), some (.int (3 : Int32)), some (.int (12 : Int32))]) [some (.ref 16), some (.int (-1 : Int32)), some (.int (3 : Int32)), some (.int (12 : Int32))] (st' := []) (σ' := (ax_sI (21, f3, g) 16 3 (-1 : Int32))) 9 (And.intro rfl (And.intro rfl (And.intro rfl (And.intro rfl (trivial))))) (fun _ _ hh => (And.intro (fun q => absurd q (show ¬ ((12 : Int32) ≤ (3 : Int32) : Prop) by decide)) (fun _ => (And.intro (show ¬ ((3 : Int32) < 0 ∨ 12 ≤ ((3 : Int32)).toNatClampNeg) by decide) hh)))) ?_
  obtain ⟨f4, e, h4⟩ : ∃ F2, ax_sI (21, f3, g) 16 3 (-1 : Int32) = (21, F2, g) ∧ iH 21 F2 iL_56 := i_w h3 (by decide)
  rw [e]; clear e
  refine ax_cutE (pc' := 14) (la := [some (.ref 16), some (.int (-1 : Int32)), some (.int (4 : Int32)), some (.int (12 : Int32))]) [some (.ref 16), some (.int (-1 : Int32)), some (.int (4 : Int32)), some (.int (12 : Int32))] (st' := []) (σ' := (ax_sI (21, f4, g) 16 4 (-1 : Int32))) 9 (And.intro rfl (And.intro rfl (And.intro rfl (And.intro rfl (trivial))))) (fun _ _ hh => (And.intro (fun q => absurd q (show ¬ ((12 : Int32) ≤ (4 : Int32) : Prop) by decide)) (fun _ => (And.intro (show ¬ ((4 : Int32) < 0 ∨ 12 ≤ ((4 : Int32)).toNatClampNeg) by decide) hh)))) ?_
  obtain ⟨f5, e, h5⟩ : ∃ F2, ax_sI (21, f4, g) 16 4 (-1 : Int32) = (21, F2, g) ∧ iH 21 F2 iL_57 := i_w h4 (by decide)
  rw [e]; clear e
  refine ax_cutE (pc' := 14) (la := [some (.ref 16), some (.int (-1 : Int32)), some (.int (5 : Int32)), some (.int (12 : Int32))]) [some (.ref 16), some (.int (-1 : Int32)), some (.int (5 : Int32)), some (.int (12 : Int32))] (st' := []) (σ' := (ax_sI (21, f5, g) 16 5 (-1 : Int32))) 9 (And.intro rfl (And.intro rfl (And.intro rfl (And.intro rfl (trivial))))) (fun _ _ hh => (And.intro (fun q => absurd q (show ¬ ((12 : Int32) ≤ (5 : Int32) : Prop) by decide)) (fun _ => (And.intro (show ¬ ((5 : Int32) < 0 ∨ 12 ≤ ((5 : Int32)).toNatClampNeg) by decide) hh)))) ?_
  obtain ⟨f6, e, h6⟩ : ∃ F2, ax_sI (21, f5, g) 16 5 (-1 : Int32) = (21, F2, g) ∧ iH 21 F2 iL_58 := i_w h5 (by decide)
  rw [e]; clear e
  refine ax_cutE (pc' := 14) (la := [some (.ref 16), some (.int (-1 : Int32)), some (.int (6 : Int32)), some (.int (12 : Int32))]) [some (.ref 16), some (.int (-1 : Int32)), some (.int (6 : Int32)), some (.int (12 : Int32))] (st' := []) (σ' := (ax_sI (21, f6, g) 16 6 (-1 : Int32))) 9 (And.intro rfl (And.intro rfl (And.intro rfl (And.intro rfl (trivial))))) (fun _ _ hh => (And.intro (fun q => absurd q (show ¬ ((12 : Int32) ≤ (6 : Int32) : Prop) by decide)) (fun _ => (And.intro (show ¬ ((6 : Int32) < 0 ∨ 12 ≤ ((6 : Int32)).toNatClampNeg) by decide) hh)))) ?_
  obtain ⟨f7, e, h7⟩ : ∃ F2, ax_sI (21, f6, g) 16 6 (-1 : Int32) = (21, F2, g) ∧ iH 21 F2 iL_59 := i_w h6 (by decide)
  rw [e]; clear e
  refine ax_cutE (pc' := 14) (la := [some (.ref 16), some (.int (-1 : Int32)), some (.int (7 : Int32)), some (.int (12 : Int32))]) [some (.ref 16), some (.int (-1 : Int32)), some (.int (7 : Int32)), some (.int (12 : Int32))] (st' := []) (σ' := (ax_sI (21, f7, g) 16 7 (-1 : Int32))) 9 (And.intro rfl (And.intro rfl (And.intro rfl (And.intro rfl (trivial))))) (fun _ _ hh => (And.intro (fun q => absurd q (show ¬ ((12 : Int32) ≤ (7 : Int32) : Prop) by decide)) (fun _ => (And.intro (show ¬ ((7 : Int32) < 0 ∨ 12 ≤ ((7 : Int32)).toNatClampNeg) by decide) hh)))) ?_
  obtain ⟨f8, e, h8⟩ : ∃ F2, ax_sI (21, f7, g) 16 7 (-1 : Int32) = (21, F2, g) ∧ iH 21 F2 iL_60 := i_w h7 (by decide)
  rw [e]; clear e
  refine ax_cutE (pc' := 14) (la := [some (.ref 16), some (.int (-1 : Int32)), some (.int (8 : Int32)), some (.int (12 : Int32))]) [some (.ref 16), some (.int (-1 : Int32)), some (.int (8 : Int32)), some (.int (12 : Int32))] (st' := []) (σ' := (ax_sI (21, f8, g) 16 8 (-1 : Int32))) 9 (And.intro rfl (And.intro rfl (And.intro rfl (And.intro rfl (trivial))))) (fun _ _ hh => (And.intro (fun q => absurd q (show ¬ ((12 : Int32) ≤ (8 : Int32) : Prop) by decide)) (fun _ => (And.intro (show ¬ ((8 : Int32) < 0 ∨ 12 ≤ ((8 : Int32)).toNatClampNeg) by decide) hh)))) ?_
  obtain ⟨f9, e, h9⟩ : ∃ F2, ax_sI (21, f8, g) 16 8 (-1 : Int32) = (21, F2, g) ∧ iH 21 F2 iL_61 := i_w h8 (by decide)
  rw [e]; clear e
  refine ax_cutE (pc' := 14) (la := [some (.ref 16), some (.int (-1 : Int32)), some (.int (9 : Int32)), some (.int (12 : Int32))]) [some (.ref 16), some (.int (-1 : Int32)), some (.int (9 : Int32)), some (.int (12 : Int32))] (st' := []) (σ' := (ax_sI (21, f9, g) 16 9 (-1 : Int32))) 9 (And.intro rfl (And.intro rfl (And.intro rfl (And.intro rfl (trivial))))) (fun _ _ hh => (And.intro (fun q => absurd q (show ¬ ((12 : Int32) ≤ (9 : Int32) : Prop) by decide)) (fun _ => (And.intro (show ¬ ((9 : Int32) < 0 ∨ 12 ≤ ((9 : Int32)).toNatClampNeg) by decide) hh)))) ?_
  obtain ⟨f10, e, h10⟩ : ∃ F2, ax_sI (21, f9, g) 16 9 (-1 : Int32) = (21, F2, g) ∧ iH 21 F2 iL_62 := i_w h9 (by decide)
  rw [e]; clear e
  refine ax_cutE (pc' := 14) (la := [some (.ref 16), some (.int (-1 : Int32)), some (.int (10 : Int32)), some (.int (12 : Int32))]) [some (.ref 16), some (.int (-1 : Int32)), some (.int (10 : Int32)), some (.int (12 : Int32))] (st' := []) (σ' := (ax_sI (21, f10, g) 16 10 (-1 : Int32))) 9 (And.intro rfl (And.intro rfl (And.intro rfl (And.intro rfl (trivial))))) (fun _ _ hh => (And.intro (fun q => absurd q (show ¬ ((12 : Int32) ≤ (10 : Int32) : Prop) by decide)) (fun _ => (And.intro (show ¬ ((10 : Int32) < 0 ∨ 12 ≤ ((10 : Int32)).toNatClampNeg) by decide) hh)))) ?_
  obtain ⟨f11, e, h11⟩ : ∃ F2, ax_sI (21, f10, g) 16 10 (-1 : Int32) = (21, F2, g) ∧ iH 21 F2 iL_63 := i_w h10 (by decide)
  rw [e]; clear e
  refine ax_cutE (pc' := 14) (la := [some (.ref 16), some (.int (-1 : Int32)), some (.int (11 : Int32)), some (.int (12 : Int32))]) [some (.ref 16), some (.int (-1 : Int32)), some (.int (11 : Int32)), some (.int (12 : Int32))] (st' := []) (σ' := (ax_sI (21, f11, g) 16 11 (-1 : Int32))) 9 (And.intro rfl (And.intro rfl (And.intro rfl (And.intro rfl (trivial))))) (fun _ _ hh => (And.intro (fun q => absurd q (show ¬ ((12 : Int32) ≤ (11 : Int32) : Prop) by decide)) (fun _ => (And.intro (show ¬ ((11 : Int32) < 0 ∨ 12 ≤ ((11 : Int32)).toNatClampNeg) by decide) hh)))) ?_
  obtain ⟨f12, e, h12⟩ : ∃ F2, ax_sI (21, f11, g) 16 11 (-1 : Int32) = (21, F2, g) ∧ iH 21 F2 iL_64 := i_w h11 (by decide)
  rw [e]; clear e
  exact ⟨f12, g, ax_endF 6 (And.intro (fun _ => rfl) (fun q => absurd (show ((12 : Int32) ≤ (12 : Int32) : Prop) by decide) q)), h12⟩
theorem i_3_15 (d : Nat) (f : Nat → Nat → Int32) (g : Nat → Nat → Int64) (h : iH 16 f iL_42) : ∃ f2 g2, ax_ev false (d + 2) 3 [.ref 15] (16, f, g) (none, (21, f2, g2)) ∧ iH 21 f2 iL_64 := by
  refine i_ev (Nat.le_of_ble_eq_true rfl) ?_
  show ∃ f2 g2, ax_go false none (ax_ev false (d + 1)) ax_m3 0 [some (.ref 15)] [] (16, f, g) (none, (21, f2, g2)) ∧ iH 21 f2 iL_64
  refine ax_cutE (pc' := 9) (la := [some (.ref 15)]) [some (.ref 15)] (st' := [.ref 16, .ref 15]) (σ' := (ax_nc (16, f, g))) 5 (And.intro rfl (trivial)) (fun _ _ hh => (And.intro rfl hh)) ?_
  obtain ⟨f1, g1, e, h1⟩ : ∃ F2 G2, ax_nc (16, f, g) = (17, F2, G2) ∧ iH 17 F2 iL_43 := i_n h g
  rw [e]; clear e
  refine ax_cutE (pc' := 12) (la := [some (.ref 15)]) [some (.ref 15)] (st' := []) (σ' := (ax_sI (17, f1, g1) 15 0 1)) 1 (And.intro rfl (trivial)) (fun _ _ hh => hh) ?_
  obtain ⟨f2, e, h2⟩ : ∃ F2, ax_sI (17, f1, g1) 15 0 1 = (17, F2, g1) ∧ iH 17 F2 iL_44 := i_w h1 (by decide)
  rw [e]; clear e
  refine ax_cutE (pc' := 17) (la := [some (.ref 15)]) [some (.ref 15)] (st' := [.ref 17, .ref 15]) (σ' := (ax_nc (17, f2, g1))) 3 (And.intro rfl (trivial)) (fun _ _ hh => (And.intro rfl hh)) ?_
  obtain ⟨f3, g3, e, h3⟩ : ∃ F2 G2, ax_nc (17, f2, g1) = (18, F2, G2) ∧ iH 18 F2 iL_45 := i_n h2 g1
  rw [e]; clear e
  refine ax_cutE (pc' := 20) (la := [some (.ref 15)]) [some (.ref 15)] (st' := []) (σ' := (ax_sI (18, f3, g3) 15 1 1)) 1 (And.intro rfl (trivial)) (fun _ _ hh => hh) ?_
  obtain ⟨f4, e, h4⟩ : ∃ F2, ax_sI (18, f3, g3) 15 1 1 = (18, F2, g3) ∧ iH 18 F2 iL_46 := i_w h3 (by decide)
  rw [e]; clear e
  refine ax_cutE (pc' := 25) (la := [some (.ref 15)]) [some (.ref 15)] (st' := [.ref 18, .ref 15]) (σ' := (ax_nc (18, f4, g3))) 3 (And.intro rfl (trivial)) (fun _ _ hh => (And.intro rfl hh)) ?_
  obtain ⟨f5, g5, e, h5⟩ : ∃ F2 G2, ax_nc (18, f4, g3) = (19, F2, G2) ∧ iH 19 F2 iL_47 := i_n h4 g3
  rw [e]; clear e
  refine ax_cutE (pc' := 28) (la := [some (.ref 15)]) [some (.ref 15)] (st' := []) (σ' := (ax_sI (19, f5, g5) 15 2 1)) 1 (And.intro rfl (trivial)) (fun _ _ hh => hh) ?_
  obtain ⟨f6, e, h6⟩ : ∃ F2, ax_sI (19, f5, g5) 15 2 1 = (19, F2, g5) ∧ iH 19 F2 iL_48 := i_w h5 (by decide)
  rw [e]; clear e
  refine ax_cutE (pc' := 33) (la := [some (.ref 15)]) [some (.ref 15)] (st' := [.ref 19, .ref 15]) (σ' := (ax_nc (19, f6, g5))) 3 (And.intro rfl (trivial)) (fun _ _ hh => (And.intro rfl hh)) ?_
  obtain ⟨f7, g7, e, h7⟩ : ∃ F2 G2, ax_nc (19, f6, g5) = (20, F2, G2) ∧ iH 20 F2 iL_49 := i_n h6 g5
  rw [e]; clear e
  refine ax_cutE (pc' := 36) (la := [some (.ref 15)]) [some (.ref 15)] (st' := []) (σ' := (ax_sI (20, f7, g7) 15 3 1)) 1 (And.intro rfl (trivial)) (fun _ _ hh => hh) ?_
  obtain ⟨f8, e, h8⟩ : ∃ F2, ax_sI (20, f7, g7) 15 3 1 = (20, F2, g7) ∧ iH 20 F2 iL_50 := i_w h7 (by decide)
  rw [e]; clear e
  refine ax_cutE (pc' := 41) (la := [some (.ref 15)]) [some (.ref 15)] (st' := [.ref 20, .ref 15]) (σ' := (ax_nc (20, f8, g7))) 3 (And.intro rfl (trivial)) (fun _ _ hh => (And.intro rfl hh)) ?_
  obtain ⟨f9, g9, e, h9⟩ : ∃ F2 G2, ax_nc (20, f8, g7) = (21, F2, G2) ∧ iH 21 F2 iL_51 := i_n h8 g7
  rw [e]; clear e
  refine ax_cutE (pc' := 44) (la := [some (.ref 15)]) [some (.ref 15)] (st' := []) (σ' := (ax_sI (21, f9, g9) 15 4 1)) 1 (And.intro rfl (trivial)) (fun _ _ hh => hh) ?_
  obtain ⟨f10, e, h10⟩ : ∃ F2, ax_sI (21, f9, g9) 15 4 1 = (21, F2, g9) ∧ iH 21 F2 iL_52 := i_w h9 (by decide)
  rw [e]; clear e
  obtain ⟨f11, g11, ev11, h11⟩ := i_4_16 (d + 0) f10 g9 h10
  refine ax_cutE (pc' := 52) (la := [some (.ref 15)]) [some (.ref 15)] (st' := []) (σ' := (21, f11, g11)) 4 (And.intro rfl (trivial)) (fun _ _ hh => (And.intro (i_r h10 (by decide) (by decide +kernel)) (Exists.intro (none, (21, f11, g11)) (And.intro ev11 hh)))) ?_
  exact ⟨f11, g11, ax_endF 1 rfl, h11⟩
theorem i_2_14 (d : Nat) (f : Nat → Nat → Int32) (g : Nat → Nat → Int64) (h : iH 15 f iL_41) : ∃ f2 g2, ax_ev false (d + 3) 2 [.ref 14] (15, f, g) (none, (25, f2, g2)) ∧ iH 25 f2 iL_74 := by
  refine i_ev (Nat.le_of_ble_eq_true rfl) ?_
  show ∃ f2 g2, ax_go false none (ax_ev false (d + 2)) ax_m2 0 [some (.ref 14)] [] (15, f, g) (none, (25, f2, g2)) ∧ iH 25 f2 iL_74
  refine ax_cutE (pc' := 8) (la := [some (.ref 14)]) [some (.ref 14)] (st' := [.ref 15, .ref 14]) (σ' := (ax_nc (15, f, g))) 4 (And.intro rfl (trivial)) (fun _ _ hh => hh) ?_
  obtain ⟨f1, g1, e, h1⟩ : ∃ F2 G2, ax_nc (15, f, g) = (16, F2, G2) ∧ iH 16 F2 iL_42 := i_n h g
  rw [e]; clear e
  obtain ⟨f2, g2, ev2, h2⟩ := i_3_15 (d + 0) f1 g1 h1
  refine ax_cutE (pc' := 12) (la := [some (.ref 14)]) [some (.ref 14)] (st' := [.ref 15, .ref 14]) (σ' := (21, f2, g2)) 2 (And.intro rfl (trivial)) (fun _ _ hh => (Exists.intro (none, (21, f2, g2)) (And.intro ev2 hh))) ?_
  refine ax_cutE (pc' := 15) (la := [some (.ref 14)]) [some (.ref 14)] (st' := []) (σ' := (ax_sI (21, f2, g2) 14 0 1)) 1 (And.intro rfl (trivial)) (fun _ _ hh => hh) ?_
  obtain ⟨f3, e, h3⟩ : ∃ F2, ax_sI (21, f2, g2) 14 0 1 = (21, F2, g2) ∧ iH 21 F2 iL_65 := i_w h2 (by decide)
  rw [e]; clear e
  refine ax_cutE (pc' := 20) (la := [some (.ref 14)]) [some (.ref 14)] (st' := [.ref 21, .ref 14]) (σ' := (ax_nc (21, f3, g2))) 3 (And.intro rfl (trivial)) (fun _ _ hh => (And.intro rfl hh)) ?_
  obtain ⟨f4, g4, e, h4⟩ : ∃ F2 G2, ax_nc (21, f3, g2) = (22, F2, G2) ∧ iH 22 F2 iL_66 := i_n h3 g2
  rw [e]; clear e
  refine ax_cutE (pc' := 23) (la := [some (.ref 14)]) [some (.ref 14)] (st' := []) (σ' := (ax_sI (22, f4, g4) 14 1 1)) 1 (And.intro rfl (trivial)) (fun _ _ hh => hh) ?_
  obtain ⟨f5, e, h5⟩ : ∃ F2, ax_sI (22, f4, g4) 14 1 1 = (22, F2, g4) ∧ iH 22 F2 iL_67 := i_w h4 (by decide)
  rw [e]; clear e
  refine ax_cutE (pc' := 28) (la := [some (.ref 14)]) [some (.ref 14)] (st' := [.ref 22, .ref 14]) (σ' := (ax_nc (22, f5, g4))) 3 (And.intro rfl (trivial)) (fun _ _ hh => (And.intro rfl hh)) ?_
  obtain ⟨f6, g6, e, h6⟩ : ∃ F2 G2, ax_nc (22, f5, g4) = (23, F2, G2) ∧ iH 23 F2 iL_68 := i_n h5 g4
  rw [e]; clear e
  refine ax_cutE (pc' := 31) (la := [some (.ref 14)]) [some (.ref 14)] (st' := []) (σ' := (ax_sI (23, f6, g6) 14 2 1)) 1 (And.intro rfl (trivial)) (fun _ _ hh => hh) ?_
  obtain ⟨f7, e, h7⟩ : ∃ F2, ax_sI (23, f6, g6) 14 2 1 = (23, F2, g6) ∧ iH 23 F2 iL_69 := i_w h6 (by decide)
  rw [e]; clear e
  refine ax_cutE (pc' := 36) (la := [some (.ref 14)]) [some (.ref 14)] (st' := [.ref 23, .ref 14]) (σ' := (ax_nc (23, f7, g6))) 3 (And.intro rfl (trivial)) (fun _ _ hh => (And.intro rfl hh)) ?_
  obtain ⟨f8, g8, e, h8⟩ : ∃ F2 G2, ax_nc (23, f7, g6) = (24, F2, G2) ∧ iH 24 F2 iL_70 := i_n h7 g6
  rw [e]; clear e
  refine ax_cutE (pc' := 39) (la := [some (.ref 14)]) [some (.ref 14)] (st' := []) (σ' := (ax_sI (24, f8, g8) 14 3 1)) 1 (And.intro rfl (trivial)) (fun _ _ hh => hh) ?_
  obtain ⟨f9, e, h9⟩ : ∃ F2, ax_sI (24, f8, g8) 14 3 1 = (24, F2, g8) ∧ iH 24 F2 iL_71 := i_w h8 (by decide)
  rw [e]; clear e
  refine ax_cutE (pc' := 45) (la := [some (.ref 14)]) [some (.ref 14)] (st' := [.ref 24, .ref 14]) (σ' := (ax_nc (24, f9, g8))) 3 (And.intro rfl (trivial)) (fun _ _ hh => (And.intro rfl hh)) ?_
  obtain ⟨f10, g10, e, h10⟩ : ∃ F2 G2, ax_nc (24, f9, g8) = (25, F2, G2) ∧ iH 25 F2 iL_72 := i_n h9 g8
  rw [e]; clear e
  refine ax_cutE (pc' := 48) (la := [some (.ref 14)]) [some (.ref 14)] (st' := []) (σ' := (ax_sI (25, f10, g10) 14 4 1)) 1 (And.intro rfl (trivial)) (fun _ _ hh => hh) ?_
  obtain ⟨f11, e, h11⟩ : ∃ F2, ax_sI (25, f10, g10) 14 4 1 = (25, F2, g10) ∧ iH 25 F2 iL_73 := i_w h10 (by decide)
  rw [e]; clear e
  refine ax_cutE (pc' := 53) (la := [some (.ref 14)]) [some (.ref 14)] (st' := []) (σ' := (ax_sI (25, f11, g10) 14 6 (1 : Int32))) 3 (And.intro rfl (trivial)) (fun _ _ hh => hh) ?_
  obtain ⟨f12, e, h12⟩ : ∃ F2, ax_sI (25, f11, g10) 14 6 (1 : Int32) = (25, F2, g10) ∧ iH 25 F2 iL_74 := i_w h11 (by decide)
  rw [e]; clear e
  exact ⟨f12, g10, ax_endF 1 rfl, h12⟩
theorem i_4_27 (d : Nat) (f : Nat → Nat → Int32) (g : Nat → Nat → Int64) (h : iH 32 f iL_87) : ∃ f2 g2, ax_ev false (d + 1) 4 [.ref 27, .int (-1 : Int32)] (32, f, g) (none, (32, f2, g2)) ∧ iH 32 f2 iL_99 := by
  refine i_ev (Nat.le_of_ble_eq_true rfl) ?_
  show ∃ f2 g2, ax_go false none (ax_ev false (d + 0)) ax_m4 0 [some (.ref 27), some (.int (-1 : Int32)), none, none] [] (32, f, g) (none, (32, f2, g2)) ∧ iH 32 f2 iL_99
  refine ax_cutE (pc' := 12) (la := [some (.ref 27), some (.int (-1 : Int32)), some (.int (0 : Int32)), some (.int (12 : Int32))]) [some (.ref 27), some (.int (-1 : Int32)), some (.int (0 : Int32)), some (.int (12 : Int32))] (st' := [.int (0 : Int32), .ref 27]) (σ' := (32, f, g)) 10 (And.intro rfl (And.intro rfl (And.intro rfl (And.intro rfl (trivial))))) (fun _ _ hh => (And.intro (fun q => absurd q (show ¬ ((12 : Int32) ≤ (0 : Int32) : Prop) by decide)) (fun _ => hh))) ?_
  refine ax_cutE (pc' := 14) (la := [some (.ref 27), some (.int (-1 : Int32)), some (.int (0 : Int32)), some (.int (12 : Int32))]) [some (.ref 27), some (.int (-1 : Int32)), some (.int (0 : Int32)), some (.int (12 : Int32))] (st' := []) (σ' := (ax_sI (32, f, g) 27 0 (-1 : Int32))) 2 (And.intro rfl (And.intro rfl (And.intro rfl (And.intro rfl (trivial))))) (fun _ _ hh => (And.intro (show ¬ ((0 : Int32) < 0 ∨ 12 ≤ ((0 : Int32)).toNatClampNeg) by decide) hh)) ?_
  obtain ⟨f1, e, h1⟩ : ∃ F2, ax_sI (32, f, g) 27 0 (-1 : Int32) = (32, F2, g) ∧ iH 32 F2 iL_88 := i_w h (by decide)
  rw [e]; clear e
  refine ax_cutE (pc' := 14) (la := [some (.ref 27), some (.int (-1 : Int32)), some (.int (1 : Int32)), some (.int (12 : Int32))]) [some (.ref 27), some (.int (-1 : Int32)), some (.int (1 : Int32)), some (.int (12 : Int32))] (st' := []) (σ' := (ax_sI (32, f1, g) 27 1 (-1 : Int32))) 9 (And.intro rfl (And.intro rfl (And.intro rfl (And.intro rfl (trivial))))) (fun _ _ hh => (And.intro (fun q => absurd q (show ¬ ((12 : Int32) ≤ (1 : Int32) : Prop) by decide)) (fun _ => (And.intro (show ¬ ((1 : Int32) < 0 ∨ 12 ≤ ((1 : Int32)).toNatClampNeg) by decide) hh)))) ?_
  obtain ⟨f2, e, h2⟩ : ∃ F2, ax_sI (32, f1, g) 27 1 (-1 : Int32) = (32, F2, g) ∧ iH 32 F2 iL_89 := i_w h1 (by decide)
  rw [e]; clear e
  refine ax_cutE (pc' := 14) (la := [some (.ref 27), some (.int (-1 : Int32)), some (.int (2 : Int32)), some (.int (12 : Int32))]) [some (.ref 27), some (.int (-1 : Int32)), some (.int (2 : Int32)), some (.int (12 : Int32))] (st' := []) (σ' := (ax_sI (32, f2, g) 27 2 (-1 : Int32))) 9 (And.intro rfl (And.intro rfl (And.intro rfl (And.intro rfl (trivial))))) (fun _ _ hh => (And.intro (fun q => absurd q (show ¬ ((12 : Int32) ≤ (2 : Int32) : Prop) by decide)) (fun _ => (And.intro (show ¬ ((2 : Int32) < 0 ∨ 12 ≤ ((2 : Int32)).toNatClampNeg) by decide) hh)))) ?_
  obtain ⟨f3, e, h3⟩ : ∃ F2, ax_sI (32, f2, g) 27 2 (-1 : Int32) = (32, F2, g) ∧ iH 32 F2 iL_90 := i_w h2 (by decide)
  rw [e]; clear e
  refine ax_cutE (pc' := 14) (la := [some (.ref 27), some (.int (-1 : Int32)), some (.int (3 : Int32)), some (.int (12 : Int32))]) [some (.ref 27), some (.int (-1 : Int32)), some (.int (3 : Int32)), some (.int (12 : Int32))] (st' := []) (σ' := (ax_sI (32, f3, g) 27 3 (-1 : Int32))) 9 (And.intro rfl (And.intro rfl (And.intro rfl (And.intro rfl (trivial))))) (fun _ _ hh => (And.intro (fun q => absurd q (show ¬ ((12 : Int32) ≤ (3 : Int32) : Prop) by decide)) (fun _ => (And.intro (show ¬ ((3 : Int32) < 0 ∨ 12 ≤ ((3 : Int32)).toNatClampNeg) by decide) hh)))) ?_
  obtain ⟨f4, e, h4⟩ : ∃ F2, ax_sI (32, f3, g) 27 3 (-1 : Int32) = (32, F2, g) ∧ iH 32 F2 iL_91 := i_w h3 (by decide)
  rw [e]; clear e
  refine ax_cutE (pc' := 14) (la := [some (.ref 27), some (.int (-1 : Int32)), some (.int (4 : Int32)), some (.int (12 : Int32))]) [some (.ref 27), some (.int (-1 : Int32)), some (.int (4 : Int32)), some (.int (12 : Int32))] (st' := []) (σ' := (ax_sI (32, f4, g) 27 4 (-1 : Int32))) 9 (And.intro rfl (And.intro rfl (And.intro rfl (And.intro rfl (trivial))))) (fun _ _ hh => (And.intro (fun q => absurd q (show ¬ ((12 : Int32) ≤ (4 : Int32) : Prop) by decide)) (fun _ => (And.intro (show ¬ ((4 : Int32) < 0 ∨ 12 ≤ ((4 : Int32)).toNatClampNeg) by decide) hh)))) ?_
  obtain ⟨f5, e, h5⟩ : ∃ F2, ax_sI (32, f4, g) 27 4 (-1 : Int32) = (32, F2, g) ∧ iH 32 F2 iL_92 := i_w h4 (by decide)
  rw [e]; clear e
  refine ax_cutE (pc' := 14) (la := [some (.ref 27), some (.int (-1 : Int32)), some (.int (5 : Int32)), some (.int (12 : Int32))]) [some (.ref 27), some (.int (-1 : Int32)), some (.int (5 : Int32)), some (.int (12 : Int32))] (st' := []) (σ' := (ax_sI (32, f5, g) 27 5 (-1 : Int32))) 9 (And.intro rfl (And.intro rfl (And.intro rfl (And.intro rfl (trivial))))) (fun _ _ hh => (And.intro (fun q => absurd q (show ¬ ((12 : Int32) ≤ (5 : Int32) : Prop) by decide)) (fun _ => (And.intro (show ¬ ((5 : Int32) < 0 ∨ 12 ≤ ((5 : Int32)).toNatClampNeg) by decide) hh)))) ?_
  obtain ⟨f6, e, h6⟩ : ∃ F2, ax_sI (32, f5, g) 27 5 (-1 : Int32) = (32, F2, g) ∧ iH 32 F2 iL_93 := i_w h5 (by decide)
  rw [e]; clear e
  refine ax_cutE (pc' := 14) (la := [some (.ref 27), some (.int (-1 : Int32)), some (.int (6 : Int32)), some (.int (12 : Int32))]) [some (.ref 27), some (.int (-1 : Int32)), some (.int (6 : Int32)), some (.int (12 : Int32))] (st' := []) (σ' := (ax_sI (32, f6, g) 27 6 (-1 : Int32))) 9 (And.intro rfl (And.intro rfl (And.intro rfl (And.intro rfl (trivial))))) (fun _ _ hh => (And.intro (fun q => absurd q (show ¬ ((12 : Int32) ≤ (6 : Int32) : Prop) by decide)) (fun _ => (And.intro (show ¬ ((6 : Int32) < 0 ∨ 12 ≤ ((6 : Int32)).toNatClampNeg) by decide) hh)))) ?_
  obtain ⟨f7, e, h7⟩ : ∃ F2, ax_sI (32, f6, g) 27 6 (-1 : Int32) = (32, F2, g) ∧ iH 32 F2 iL_94 := i_w h6 (by decide)
  rw [e]; clear e
  refine ax_cutE (pc' := 14) (la := [some (.ref 27), some (.int (-1 : Int32)), some (.int (7 : Int32)), some (.int (12 : Int32))]) [some (.ref 27), some (.int (-1 : Int32)), some (.int (7 : Int32)), some (.int (12 : Int32))] (st' := []) (σ' := (ax_sI (32, f7, g) 27 7 (-1 : Int32))) 9 (And.intro rfl (And.intro rfl (And.intro rfl (And.intro rfl (trivial))))) (fun _ _ hh => (And.intro (fun q => absurd q (show ¬ ((12 : Int32) ≤ (7 : Int32) : Prop) by decide)) (fun _ => (And.intro (show ¬ ((7 : Int32) < 0 ∨ 12 ≤ ((7 : Int32)).toNatClampNeg) by decide) hh)))) ?_
  obtain ⟨f8, e, h8⟩ : ∃ F2, ax_sI (32, f7, g) 27 7 (-1 : Int32) = (32, F2, g) ∧ iH 32 F2 iL_95 := i_w h7 (by decide)
  rw [e]; clear e
  refine ax_cutE (pc' := 14) (la := [some (.ref 27), some (.int (-1 : Int32)), some (.int (8 : Int32)), some (.int (12 : Int32))]) [some (.ref 27), some (.int (-1 : Int32)), some (.int (8 : Int32)), some (.int (12 : Int32))] (st' := []) (σ' := (ax_sI (32, f8, g) 27 8 (-1 : Int32))) 9 (And.intro rfl (And.intro rfl (And.intro rfl (And.intro rfl (trivial))))) (fun _ _ hh => (And.intro (fun q => absurd q (show ¬ ((12 : Int32) ≤ (8 : Int32) : Prop) by decide)) (fun _ => (And.intro (show ¬ ((8 : Int32) < 0 ∨ 12 ≤ ((8 : Int32)).toNatClampNeg) by decide) hh)))) ?_
  obtain ⟨f9, e, h9⟩ : ∃ F2, ax_sI (32, f8, g) 27 8 (-1 : Int32) = (32, F2, g) ∧ iH 32 F2 iL_96 := i_w h8 (by decide)
  rw [e]; clear e
  refine ax_cutE (pc' := 14) (la := [some (.ref 27), some (.int (-1 : Int32)), some (.int (9 : Int32)), some (.int (12 : Int32))]) [some (.ref 27), some (.int (-1 : Int32)), some (.int (9 : Int32)), some (.int (12 : Int32))] (st' := []) (σ' := (ax_sI (32, f9, g) 27 9 (-1 : Int32))) 9 (And.intro rfl (And.intro rfl (And.intro rfl (And.intro rfl (trivial))))) (fun _ _ hh => (And.intro (fun q => absurd q (show ¬ ((12 : Int32) ≤ (9 : Int32) : Prop) by decide)) (fun _ => (And.intro (show ¬ ((9 : Int32) < 0 ∨ 12 ≤ ((9 : Int32)).toNatClampNeg) by decide) hh)))) ?_
  obtain ⟨f10, e, h10⟩ : ∃ F2, ax_sI (32, f9, g) 27 9 (-1 : Int32) = (32, F2, g) ∧ iH 32 F2 iL_97 := i_w h9 (by decide)
  rw [e]; clear e
  refine ax_cutE (pc' := 14) (la := [some (.ref 27), some (.int (-1 : Int32)), some (.int (10 : Int32)), some (.int (12 : Int32))]) [some (.ref 27), some (.int (-1 : Int32)), some (.int (10 : Int32)), some (.int (12 : Int32))] (st' := []) (σ' := (ax_sI (32, f10, g) 27 10 (-1 : Int32))) 9 (And.intro rfl (And.intro rfl (And.intro rfl (And.intro rfl (trivial))))) (fun _ _ hh => (And.intro (fun q => absurd q (show ¬ ((12 : Int32) ≤ (10 : Int32) : Prop) by decide)) (fun _ => (And.intro (show ¬ ((10 : Int32) < 0 ∨ 12 ≤ ((10 : Int32)).toNatClampNeg) by decide) hh)))) ?_
  obtain ⟨f11, e, h11⟩ : ∃ F2, ax_sI (32, f10, g) 27 10 (-1 : Int32) = (32, F2, g) ∧ iH 32 F2 iL_98 := i_w h10 (by decide)
  rw [e]; clear e
  refine ax_cutE (pc' := 14) (la := [some (.ref 27), some (.int (-1 : Int32)), some (.int (11 : Int32)), some (.int (12 : Int32))]) [some (.ref 27), some (.int (-1 : Int32)), some (.int (11 : Int32)), some (.int (12 : Int32))] (st' := []) (σ' := (ax_sI (32, f11, g) 27 11 (-1 : Int32))) 9 (And.intro rfl (And.intro rfl (And.intro rfl (And.intro rfl (trivial))))) (fun _ _ hh => (And.intro (fun q => absurd q (show ¬ ((12 : Int32) ≤ (11 : Int32) : Prop) by decide)) (fun _ => (And.intro (show ¬ ((11 : Int32) < 0 ∨ 12 ≤ ((11 : Int32)).toNatClampNeg) by decide) hh)))) ?_
  obtain ⟨f12, e, h12⟩ : ∃ F2, ax_sI (32, f11, g) 27 11 (-1 : Int32) = (32, F2, g) ∧ iH 32 F2 iL_99 := i_w h11 (by decide)
  rw [e]; clear e
  exact ⟨f12, g, ax_endF 6 (And.intro (fun _ => rfl) (fun q => absurd (show ((12 : Int32) ≤ (12 : Int32) : Prop) by decide) q)), h12⟩
theorem i_3_26 (d : Nat) (f : Nat → Nat → Int32) (g : Nat → Nat → Int64) (h : iH 27 f iL_77) : ∃ f2 g2, ax_ev false (d + 2) 3 [.ref 26] (27, f, g) (none, (32, f2, g2)) ∧ iH 32 f2 iL_99 := by
  refine i_ev (Nat.le_of_ble_eq_true rfl) ?_
  show ∃ f2 g2, ax_go false none (ax_ev false (d + 1)) ax_m3 0 [some (.ref 26)] [] (27, f, g) (none, (32, f2, g2)) ∧ iH 32 f2 iL_99
  refine ax_cutE (pc' := 9) (la := [some (.ref 26)]) [some (.ref 26)] (st' := [.ref 27, .ref 26]) (σ' := (ax_nc (27, f, g))) 5 (And.intro rfl (trivial)) (fun _ _ hh => (And.intro rfl hh)) ?_
  obtain ⟨f1, g1, e, h1⟩ : ∃ F2 G2, ax_nc (27, f, g) = (28, F2, G2) ∧ iH 28 F2 iL_78 := i_n h g
  rw [e]; clear e
  refine ax_cutE (pc' := 12) (la := [some (.ref 26)]) [some (.ref 26)] (st' := []) (σ' := (ax_sI (28, f1, g1) 26 0 1)) 1 (And.intro rfl (trivial)) (fun _ _ hh => hh) ?_
  obtain ⟨f2, e, h2⟩ : ∃ F2, ax_sI (28, f1, g1) 26 0 1 = (28, F2, g1) ∧ iH 28 F2 iL_79 := i_w h1 (by decide)
  rw [e]; clear e
  refine ax_cutE (pc' := 17) (la := [some (.ref 26)]) [some (.ref 26)] (st' := [.ref 28, .ref 26]) (σ' := (ax_nc (28, f2, g1))) 3 (And.intro rfl (trivial)) (fun _ _ hh => (And.intro rfl hh)) ?_
  obtain ⟨f3, g3, e, h3⟩ : ∃ F2 G2, ax_nc (28, f2, g1) = (29, F2, G2) ∧ iH 29 F2 iL_80 := i_n h2 g1
  rw [e]; clear e
  refine ax_cutE (pc' := 20) (la := [some (.ref 26)]) [some (.ref 26)] (st' := []) (σ' := (ax_sI (29, f3, g3) 26 1 1)) 1 (And.intro rfl (trivial)) (fun _ _ hh => hh) ?_
  obtain ⟨f4, e, h4⟩ : ∃ F2, ax_sI (29, f3, g3) 26 1 1 = (29, F2, g3) ∧ iH 29 F2 iL_81 := i_w h3 (by decide)
  rw [e]; clear e
  refine ax_cutE (pc' := 25) (la := [some (.ref 26)]) [some (.ref 26)] (st' := [.ref 29, .ref 26]) (σ' := (ax_nc (29, f4, g3))) 3 (And.intro rfl (trivial)) (fun _ _ hh => (And.intro rfl hh)) ?_
  obtain ⟨f5, g5, e, h5⟩ : ∃ F2 G2, ax_nc (29, f4, g3) = (30, F2, G2) ∧ iH 30 F2 iL_82 := i_n h4 g3
  rw [e]; clear e
  refine ax_cutE (pc' := 28) (la := [some (.ref 26)]) [some (.ref 26)] (st' := []) (σ' := (ax_sI (30, f5, g5) 26 2 1)) 1 (And.intro rfl (trivial)) (fun _ _ hh => hh) ?_
  obtain ⟨f6, e, h6⟩ : ∃ F2, ax_sI (30, f5, g5) 26 2 1 = (30, F2, g5) ∧ iH 30 F2 iL_83 := i_w h5 (by decide)
  rw [e]; clear e
  refine ax_cutE (pc' := 33) (la := [some (.ref 26)]) [some (.ref 26)] (st' := [.ref 30, .ref 26]) (σ' := (ax_nc (30, f6, g5))) 3 (And.intro rfl (trivial)) (fun _ _ hh => (And.intro rfl hh)) ?_
  obtain ⟨f7, g7, e, h7⟩ : ∃ F2 G2, ax_nc (30, f6, g5) = (31, F2, G2) ∧ iH 31 F2 iL_84 := i_n h6 g5
  rw [e]; clear e
  refine ax_cutE (pc' := 36) (la := [some (.ref 26)]) [some (.ref 26)] (st' := []) (σ' := (ax_sI (31, f7, g7) 26 3 1)) 1 (And.intro rfl (trivial)) (fun _ _ hh => hh) ?_
  obtain ⟨f8, e, h8⟩ : ∃ F2, ax_sI (31, f7, g7) 26 3 1 = (31, F2, g7) ∧ iH 31 F2 iL_85 := i_w h7 (by decide)
  rw [e]; clear e
  refine ax_cutE (pc' := 41) (la := [some (.ref 26)]) [some (.ref 26)] (st' := [.ref 31, .ref 26]) (σ' := (ax_nc (31, f8, g7))) 3 (And.intro rfl (trivial)) (fun _ _ hh => (And.intro rfl hh)) ?_
  obtain ⟨f9, g9, e, h9⟩ : ∃ F2 G2, ax_nc (31, f8, g7) = (32, F2, G2) ∧ iH 32 F2 iL_86 := i_n h8 g7
  rw [e]; clear e
  refine ax_cutE (pc' := 44) (la := [some (.ref 26)]) [some (.ref 26)] (st' := []) (σ' := (ax_sI (32, f9, g9) 26 4 1)) 1 (And.intro rfl (trivial)) (fun _ _ hh => hh) ?_
  obtain ⟨f10, e, h10⟩ : ∃ F2, ax_sI (32, f9, g9) 26 4 1 = (32, F2, g9) ∧ iH 32 F2 iL_87 := i_w h9 (by decide)
  rw [e]; clear e
  obtain ⟨f11, g11, ev11, h11⟩ := i_4_27 (d + 0) f10 g9 h10
  refine ax_cutE (pc' := 52) (la := [some (.ref 26)]) [some (.ref 26)] (st' := []) (σ' := (32, f11, g11)) 4 (And.intro rfl (trivial)) (fun _ _ hh => (And.intro (i_r h10 (by decide) (by decide +kernel)) (Exists.intro (none, (32, f11, g11)) (And.intro ev11 hh)))) ?_
  exact ⟨f11, g11, ax_endF 1 rfl, h11⟩
theorem i_2_25 (d : Nat) (f : Nat → Nat → Int32) (g : Nat → Nat → Int64) (h : iH 26 f iL_76) : ∃ f2 g2, ax_ev false (d + 3) 2 [.ref 25] (26, f, g) (none, (36, f2, g2)) ∧ iH 36 f2 iL_109 := by
  refine i_ev (Nat.le_of_ble_eq_true rfl) ?_
  show ∃ f2 g2, ax_go false none (ax_ev false (d + 2)) ax_m2 0 [some (.ref 25)] [] (26, f, g) (none, (36, f2, g2)) ∧ iH 36 f2 iL_109
  refine ax_cutE (pc' := 8) (la := [some (.ref 25)]) [some (.ref 25)] (st' := [.ref 26, .ref 25]) (σ' := (ax_nc (26, f, g))) 4 (And.intro rfl (trivial)) (fun _ _ hh => hh) ?_
  obtain ⟨f1, g1, e, h1⟩ : ∃ F2 G2, ax_nc (26, f, g) = (27, F2, G2) ∧ iH 27 F2 iL_77 := i_n h g
  rw [e]; clear e
  obtain ⟨f2, g2, ev2, h2⟩ := i_3_26 (d + 0) f1 g1 h1
  refine ax_cutE (pc' := 12) (la := [some (.ref 25)]) [some (.ref 25)] (st' := [.ref 26, .ref 25]) (σ' := (32, f2, g2)) 2 (And.intro rfl (trivial)) (fun _ _ hh => (Exists.intro (none, (32, f2, g2)) (And.intro ev2 hh))) ?_
  refine ax_cutE (pc' := 15) (la := [some (.ref 25)]) [some (.ref 25)] (st' := []) (σ' := (ax_sI (32, f2, g2) 25 0 1)) 1 (And.intro rfl (trivial)) (fun _ _ hh => hh) ?_
  obtain ⟨f3, e, h3⟩ : ∃ F2, ax_sI (32, f2, g2) 25 0 1 = (32, F2, g2) ∧ iH 32 F2 iL_100 := i_w h2 (by decide)
  rw [e]; clear e
  refine ax_cutE (pc' := 20) (la := [some (.ref 25)]) [some (.ref 25)] (st' := [.ref 32, .ref 25]) (σ' := (ax_nc (32, f3, g2))) 3 (And.intro rfl (trivial)) (fun _ _ hh => (And.intro rfl hh)) ?_
  obtain ⟨f4, g4, e, h4⟩ : ∃ F2 G2, ax_nc (32, f3, g2) = (33, F2, G2) ∧ iH 33 F2 iL_101 := i_n h3 g2
  rw [e]; clear e
  refine ax_cutE (pc' := 23) (la := [some (.ref 25)]) [some (.ref 25)] (st' := []) (σ' := (ax_sI (33, f4, g4) 25 1 1)) 1 (And.intro rfl (trivial)) (fun _ _ hh => hh) ?_
  obtain ⟨f5, e, h5⟩ : ∃ F2, ax_sI (33, f4, g4) 25 1 1 = (33, F2, g4) ∧ iH 33 F2 iL_102 := i_w h4 (by decide)
  rw [e]; clear e
  refine ax_cutE (pc' := 28) (la := [some (.ref 25)]) [some (.ref 25)] (st' := [.ref 33, .ref 25]) (σ' := (ax_nc (33, f5, g4))) 3 (And.intro rfl (trivial)) (fun _ _ hh => (And.intro rfl hh)) ?_
  obtain ⟨f6, g6, e, h6⟩ : ∃ F2 G2, ax_nc (33, f5, g4) = (34, F2, G2) ∧ iH 34 F2 iL_103 := i_n h5 g4
  rw [e]; clear e
  refine ax_cutE (pc' := 31) (la := [some (.ref 25)]) [some (.ref 25)] (st' := []) (σ' := (ax_sI (34, f6, g6) 25 2 1)) 1 (And.intro rfl (trivial)) (fun _ _ hh => hh) ?_
  obtain ⟨f7, e, h7⟩ : ∃ F2, ax_sI (34, f6, g6) 25 2 1 = (34, F2, g6) ∧ iH 34 F2 iL_104 := i_w h6 (by decide)
  rw [e]; clear e
  refine ax_cutE (pc' := 36) (la := [some (.ref 25)]) [some (.ref 25)] (st' := [.ref 34, .ref 25]) (σ' := (ax_nc (34, f7, g6))) 3 (And.intro rfl (trivial)) (fun _ _ hh => (And.intro rfl hh)) ?_
  obtain ⟨f8, g8, e, h8⟩ : ∃ F2 G2, ax_nc (34, f7, g6) = (35, F2, G2) ∧ iH 35 F2 iL_105 := i_n h7 g6
  rw [e]; clear e
  refine ax_cutE (pc' := 39) (la := [some (.ref 25)]) [some (.ref 25)] (st' := []) (σ' := (ax_sI (35, f8, g8) 25 3 1)) 1 (And.intro rfl (trivial)) (fun _ _ hh => hh) ?_
  obtain ⟨f9, e, h9⟩ : ∃ F2, ax_sI (35, f8, g8) 25 3 1 = (35, F2, g8) ∧ iH 35 F2 iL_106 := i_w h8 (by decide)
  rw [e]; clear e
  refine ax_cutE (pc' := 45) (la := [some (.ref 25)]) [some (.ref 25)] (st' := [.ref 35, .ref 25]) (σ' := (ax_nc (35, f9, g8))) 3 (And.intro rfl (trivial)) (fun _ _ hh => (And.intro rfl hh)) ?_
  obtain ⟨f10, g10, e, h10⟩ : ∃ F2 G2, ax_nc (35, f9, g8) = (36, F2, G2) ∧ iH 36 F2 iL_107 := i_n h9 g8
  rw [e]; clear e
  refine ax_cutE (pc' := 48) (la := [some (.ref 25)]) [some (.ref 25)] (st' := []) (σ' := (ax_sI (36, f10, g10) 25 4 1)) 1 (And.intro rfl (trivial)) (fun _ _ hh => hh) ?_
  obtain ⟨f11, e, h11⟩ : ∃ F2, ax_sI (36, f10, g10) 25 4 1 = (36, F2, g10) ∧ iH 36 F2 iL_108 := i_w h10 (by decide)
  rw [e]; clear e
  refine ax_cutE (pc' := 53) (la := [some (.ref 25)]) [some (.ref 25)] (st' := []) (σ' := (ax_sI (36, f11, g10) 25 6 (1 : Int32))) 3 (And.intro rfl (trivial)) (fun _ _ hh => hh) ?_
  obtain ⟨f12, e, h12⟩ : ∃ F2, ax_sI (36, f11, g10) 25 6 (1 : Int32) = (36, F2, g10) ∧ iH 36 F2 iL_109 := i_w h11 (by decide)
  rw [e]; clear e
  exact ⟨f12, g10, ax_endF 1 rfl, h12⟩
theorem i_5_36 (d : Nat) (f : Nat → Nat → Int32) (g : Nat → Nat → Int64) (h : iH 37 f iL_111) : ∃ f2 g2, ax_ev false (d + 1) 5 [.ref 36] (37, f, g) (none, (44, f2, g2)) ∧ iH 44 f2 iL_125 := by
  refine i_ev (Nat.le_of_ble_eq_true rfl) ?_
  show ∃ f2 g2, ax_go false none (ax_ev false (d + 0)) ax_m5 0 [some (.ref 36)] [] (37, f, g) (none, (44, f2, g2)) ∧ iH 44 f2 iL_125
  refine ax_cutE (pc' := 9) (la := [some (.ref 36)]) [some (.ref 36)] (st' := [.ref 37, .ref 36]) (σ' := (ax_nc (37, f, g))) 5 (And.intro rfl (trivial)) (fun _ _ hh => (And.intro rfl hh)) ?_
  obtain ⟨f1, g1, e, h1⟩ : ∃ F2 G2, ax_nc (37, f, g) = (38, F2, G2) ∧ iH 38 F2 iL_112 := i_n h g
  rw [e]; clear e
  refine ax_cutE (pc' := 12) (la := [some (.ref 36)]) [some (.ref 36)] (st' := []) (σ' := (ax_sI (38, f1, g1) 36 0 1)) 1 (And.intro rfl (trivial)) (fun _ _ hh => hh) ?_
  obtain ⟨f2, e, h2⟩ : ∃ F2, ax_sI (38, f1, g1) 36 0 1 = (38, F2, g1) ∧ iH 38 F2 iL_113 := i_w h1 (by decide)
  rw [e]; clear e
  refine ax_cutE (pc' := 17) (la := [some (.ref 36)]) [some (.ref 36)] (st' := [.ref 38, .ref 36]) (σ' := (ax_nc (38, f2, g1))) 3 (And.intro rfl (trivial)) (fun _ _ hh => (And.intro rfl hh)) ?_
  obtain ⟨f3, g3, e, h3⟩ : ∃ F2 G2, ax_nc (38, f2, g1) = (39, F2, G2) ∧ iH 39 F2 iL_114 := i_n h2 g1
  rw [e]; clear e
  refine ax_cutE (pc' := 20) (la := [some (.ref 36)]) [some (.ref 36)] (st' := []) (σ' := (ax_sI (39, f3, g3) 36 1 1)) 1 (And.intro rfl (trivial)) (fun _ _ hh => hh) ?_
  obtain ⟨f4, e, h4⟩ : ∃ F2, ax_sI (39, f3, g3) 36 1 1 = (39, F2, g3) ∧ iH 39 F2 iL_115 := i_w h3 (by decide)
  rw [e]; clear e
  refine ax_cutE (pc' := 25) (la := [some (.ref 36)]) [some (.ref 36)] (st' := [.ref 39, .ref 36]) (σ' := (ax_nc (39, f4, g3))) 3 (And.intro rfl (trivial)) (fun _ _ hh => (And.intro rfl hh)) ?_
  obtain ⟨f5, g5, e, h5⟩ : ∃ F2 G2, ax_nc (39, f4, g3) = (40, F2, G2) ∧ iH 40 F2 iL_116 := i_n h4 g3
  rw [e]; clear e
  refine ax_cutE (pc' := 28) (la := [some (.ref 36)]) [some (.ref 36)] (st' := []) (σ' := (ax_sI (40, f5, g5) 36 2 1)) 1 (And.intro rfl (trivial)) (fun _ _ hh => hh) ?_
  obtain ⟨f6, e, h6⟩ : ∃ F2, ax_sI (40, f5, g5) 36 2 1 = (40, F2, g5) ∧ iH 40 F2 iL_117 := i_w h5 (by decide)
  rw [e]; clear e
  refine ax_cutE (pc' := 33) (la := [some (.ref 36)]) [some (.ref 36)] (st' := [.ref 40, .ref 36]) (σ' := (ax_nc (40, f6, g5))) 3 (And.intro rfl (trivial)) (fun _ _ hh => (And.intro rfl hh)) ?_
  obtain ⟨f7, g7, e, h7⟩ : ∃ F2 G2, ax_nc (40, f6, g5) = (41, F2, G2) ∧ iH 41 F2 iL_118 := i_n h6 g5
  rw [e]; clear e
  refine ax_cutE (pc' := 36) (la := [some (.ref 36)]) [some (.ref 36)] (st' := []) (σ' := (ax_sI (41, f7, g7) 36 3 1)) 1 (And.intro rfl (trivial)) (fun _ _ hh => hh) ?_
  obtain ⟨f8, e, h8⟩ : ∃ F2, ax_sI (41, f7, g7) 36 3 1 = (41, F2, g7) ∧ iH 41 F2 iL_119 := i_w h7 (by decide)
  rw [e]; clear e
  refine ax_cutE (pc' := 42) (la := [some (.ref 36)]) [some (.ref 36)] (st' := [.ref 41, .ref 36]) (σ' := (ax_nc (41, f8, g7))) 3 (And.intro rfl (trivial)) (fun _ _ hh => (And.intro rfl hh)) ?_
  obtain ⟨f9, g9, e, h9⟩ : ∃ F2 G2, ax_nc (41, f8, g7) = (42, F2, G2) ∧ iH 42 F2 iL_120 := i_n h8 g7
  rw [e]; clear e
  refine ax_cutE (pc' := 45) (la := [some (.ref 36)]) [some (.ref 36)] (st' := []) (σ' := (ax_sI (42, f9, g9) 36 4 1)) 1 (And.intro rfl (trivial)) (fun _ _ hh => hh) ?_
  obtain ⟨f10, e, h10⟩ : ∃ F2, ax_sI (42, f9, g9) 36 4 1 = (42, F2, g9) ∧ iH 42 F2 iL_121 := i_w h9 (by decide)
  rw [e]; clear e
  refine ax_cutE (pc' := 51) (la := [some (.ref 36)]) [some (.ref 36)] (st' := [.ref 42, .ref 36]) (σ' := (ax_nc (42, f10, g9))) 3 (And.intro rfl (trivial)) (fun _ _ hh => (And.intro rfl hh)) ?_
  obtain ⟨f11, g11, e, h11⟩ : ∃ F2 G2, ax_nc (42, f10, g9) = (43, F2, G2) ∧ iH 43 F2 iL_122 := i_n h10 g9
  rw [e]; clear e
  refine ax_cutE (pc' := 54) (la := [some (.ref 36)]) [some (.ref 36)] (st' := []) (σ' := (ax_sI (43, f11, g11) 36 5 1)) 1 (And.intro rfl (trivial)) (fun _ _ hh => hh) ?_
  obtain ⟨f12, e, h12⟩ : ∃ F2, ax_sI (43, f11, g11) 36 5 1 = (43, F2, g11) ∧ iH 43 F2 iL_123 := i_w h11 (by decide)
  rw [e]; clear e
  refine ax_cutE (pc' := 59) (la := [some (.ref 36)]) [some (.ref 36)] (st' := [.ref 43, .ref 36]) (σ' := (ax_nc (43, f12, g11))) 3 (And.intro rfl (trivial)) (fun _ _ hh => (And.intro rfl hh)) ?_
  obtain ⟨f13, g13, e, h13⟩ : ∃ F2 G2, ax_nc (43, f12, g11) = (44, F2, G2) ∧ iH 44 F2 iL_124 := i_n h12 g11
  rw [e]; clear e
  refine ax_cutE (pc' := 62) (la := [some (.ref 36)]) [some (.ref 36)] (st' := []) (σ' := (ax_sI (44, f13, g13) 36 6 1)) 1 (And.intro rfl (trivial)) (fun _ _ hh => hh) ?_
  obtain ⟨f14, e, h14⟩ : ∃ F2, ax_sI (44, f13, g13) 36 6 1 = (44, F2, g13) ∧ iH 44 F2 iL_125 := i_w h13 (by decide)
  rw [e]; clear e
  exact ⟨f14, g13, ax_endF 1 rfl, h14⟩
