/-! constructors, 2 -/
theorem i_5_44 (d : Nat) (f : Nat → Nat → Int32) (g : Nat → Nat → Int64) (h : iH 45 f iL_127) : ∃ f2 g2, ax_ev false (d + 1) 5 [.ref 44] (45, f, g) (none, (52, f2, g2)) ∧ iH 52 f2 iL_141 := by
  refine i_ev (Nat.le_of_ble_eq_true rfl) ?_
  show ∃ f2 g2, ax_go false none (ax_ev false (d + 0)) ax_m5 0 [some (.ref 44)] [] (45, f, g) (none, (52, f2, g2)) ∧ iH 52 f2 iL_141
  refine ax_cutE (pc' := 9) (la := [some (.ref 44)]) [some (.ref 44)] (st' := [.ref 45, .ref 44]) (σ' := (ax_nc (45, f, g))) 5 (And.intro rfl (trivial)) (fun _ _ hh => (And.intro rfl hh)) ?_
  obtain ⟨f1, g1, e, h1⟩ : ∃ F2 G2, ax_nc (45, f, g) = (46, F2, G2) ∧ iH 46 F2 iL_128 := i_n h g
  rw [e]; clear e
  refine ax_cutE (pc' := 12) (la := [some (.ref 44)]) [some (.ref 44)] (st' := []) (σ' := (ax_sI (46, f1, g1) 44 0 1)) 1 (And.intro rfl (trivial)) (fun _ _ hh => hh) ?_
  obtain ⟨f2, e, h2⟩ : ∃ F2, ax_sI (46, f1, g1) 44 0 1 = (46, F2, g1) ∧ iH 46 F2 iL_129 := i_w h1 (by decide)
  rw [e]; clear e
  refine ax_cutE (pc' := 17) (la := [some (.ref 44)]) [some (.ref 44)] (st' := [.ref 46, .ref 44]) (σ' := (ax_nc (46, f2, g1))) 3 (And.intro rfl (trivial)) (fun _ _ hh => (And.intro rfl hh)) ?_
  obtain ⟨f3, g3, e, h3⟩ : ∃ F2 G2, ax_nc (46, f2, g1) = (47, F2, G2) ∧ iH 47 F2 iL_130 := i_n h2 g1
  rw [e]; clear e
  refine ax_cutE (pc' := 20) (la := [some (.ref 44)]) [some (.ref 44)] (st' := []) (σ' := (ax_sI (47, f3, g3) 44 1 1)) 1 (And.intro rfl (trivial)) (fun _ _ hh => hh) ?_
  obtain ⟨f4, e, h4⟩ : ∃ F2, ax_sI (47, f3, g3) 44 1 1 = (47, F2, g3) ∧ iH 47 F2 iL_131 := i_w h3 (by decide)
  rw [e]; clear e
  refine ax_cutE (pc' := 25) (la := [some (.ref 44)]) [some (.ref 44)] (st' := [.ref 47, .ref 44]) (σ' := (ax_nc (47, f4, g3))) 3 (And.intro rfl (trivial)) (fun _ _ hh => (And.intro rfl hh)) ?_
  obtain ⟨f5, g5, e, h5⟩ : ∃ F2 G2, ax_nc (47, f4, g3) = (48, F2, G2) ∧ iH 48 F2 iL_132 := i_n h4 g3
  rw [e]; clear e
  refine ax_cutE (pc' := 28) (la := [some (.ref 44)]) [some (.ref 44)] (st' := []) (σ' := (ax_sI (48, f5, g5) 44 2 1)) 1 (And.intro rfl (trivial)) (fun _ _ hh => hh) ?_
  obtain ⟨f6, e, h6⟩ : ∃ F2, ax_sI (48, f5, g5) 44 2 1 = (48, F2, g5) ∧ iH 48 F2 iL_133 := i_w h5 (by decide)
  rw [e]; clear e
  refine ax_cutE (pc' := 33) (la := [some (.ref 44)]) [some (.ref 44)] (st' := [.ref 48, .ref 44]) (σ' := (ax_nc (48, f6, g5))) 3 (And.intro rfl (trivial)) (fun _ _ hh => (And.intro rfl hh)) ?_
  obtain ⟨f7, g7, e, h7⟩ : ∃ F2 G2, ax_nc (48, f6, g5) = (49, F2, G2) ∧ iH 49 F2 iL_134 := i_n h6 g5
  rw [e]; clear e
  refine ax_cutE (pc' := 36) (la := [some (.ref 44)]) [some (.ref 44)] (st' := []) (σ' := (ax_sI (49, f7, g7) 44 3 1)) 1 (And.intro rfl (trivial)) (fun _ _ hh => hh) ?_
  obtain ⟨f8, e, h8⟩ : ∃ F2, ax_sI (49, f7, g7) 44 3 1 = (49, F2, g7) ∧ iH 49 F2 iL_135 := i_w h7 (by decide)
  rw [e]; clear e
  refine ax_cutE (pc' := 42) (la := [some (.ref 44)]) [some (.ref 44)] (st' := [.ref 49, .ref 44]) (σ' := (ax_nc (49, f8, g7))) 3 (And.intro rfl (trivial)) (fun _ _ hh => (And.intro rfl hh)) ?_
  obtain ⟨f9, g9, e, h9⟩ : ∃ F2 G2, ax_nc (49, f8, g7) = (50, F2, G2) ∧ iH 50 F2 iL_136 := i_n h8 g7
  rw [e]; clear e
  refine ax_cutE (pc' := 45) (la := [some (.ref 44)]) [some (.ref 44)] (st' := []) (σ' := (ax_sI (50, f9, g9) 44 4 1)) 1 (And.intro rfl (trivial)) (fun _ _ hh => hh) ?_
  obtain ⟨f10, e, h10⟩ : ∃ F2, ax_sI (50, f9, g9) 44 4 1 = (50, F2, g9) ∧ iH 50 F2 iL_137 := i_w h9 (by decide)
  rw [e]; clear e
  refine ax_cutE (pc' := 51) (la := [some (.ref 44)]) [some (.ref 44)] (st' := [.ref 50, .ref 44]) (σ' := (ax_nc (50, f10, g9))) 3 (And.intro rfl (trivial)) (fun _ _ hh => (And.intro rfl hh)) ?_
  obtain ⟨f11, g11, e, h11⟩ : ∃ F2 G2, ax_nc (50, f10, g9) = (51, F2, G2) ∧ iH 51 F2 iL_138 := i_n h10 g9
  rw [e]; clear e
  refine ax_cutE (pc' := 54) (la := [some (.ref 44)]) [some (.ref 44)] (st' := []) (σ' := (ax_sI (51, f11, g11) 44 5 1)) 1 (And.intro rfl (trivial)) (fun _ _ hh => hh) ?_
  obtain ⟨f12, e, h12⟩ : ∃ F2, ax_sI (51, f11, g11) 44 5 1 = (51, F2, g11) ∧ iH 51 F2 iL_139 := i_w h11 (by decide)
  rw [e]; clear e
  refine ax_cutE (pc' := 59) (la := [some (.ref 44)]) [some (.ref 44)] (st' := [.ref 51, .ref 44]) (σ' := (ax_nc (51, f12, g11))) 3 (And.intro rfl (trivial)) (fun _ _ hh => (And.intro rfl hh)) ?_
  obtain ⟨f13, g13, e, h13⟩ : ∃ F2 G2, ax_nc (51, f12, g11) = (52, F2, G2) ∧ iH 52 F2 iL_140 := i_n h12 g11
  rw [e]; clear e
  refine ax_cutE (pc' := 62) (la := [some (.ref 44)]) [some (.ref 44)] (st' := []) (σ' := (ax_sI (52, f13, g13) 44 6 1)) 1 (And.intro rfl (trivial)) (fun _ _ hh => hh) ?_
  obtain ⟨f14, e, h14⟩ : ∃ F2, ax_sI (52, f13, g13) 44 6 1 = (52, F2, g13) ∧ iH 52 F2 iL_141 := i_w h13 (by decide)
  rw [e]; clear e
  exact ⟨f14, g13, ax_endF 1 rfl, h14⟩
theorem i_7_52 (d : Nat) (f : Nat → Nat → Int32) (g : Nat → Nat → Int64) (h : iH 53 f iL_143) : ∃ f2 g2, ax_ev false (d + 1) 7 [.ref 52, .ref 1, .int (12 : Int32)] (53, f, g) (none, (53, f2, g2)) ∧ iH 53 f2 iL_145 := by
  refine i_ev (Nat.le_of_ble_eq_true rfl) ?_
  show ∃ f2 g2, ax_go false none (ax_ev false (d + 0)) ax_m7 0 [some (.ref 52), some (.ref 1), some (.int (12 : Int32))] [] (53, f, g) (none, (53, f2, g2)) ∧ iH 53 f2 iL_145
  refine ax_cutE (pc' := 9) (la := [some (.ref 52), some (.ref 1), some (.int (12 : Int32))]) [some (.ref 52), some (.ref 1), some (.int (12 : Int32))] (st' := []) (σ' := (ax_sI (53, f, g) 52 0 1)) 5 (And.intro rfl (And.intro rfl (And.intro rfl (trivial)))) (fun _ _ hh => hh) ?_
  obtain ⟨f1, e, h1⟩ : ∃ F2, ax_sI (53, f, g) 52 0 1 = (53, F2, g) ∧ iH 53 F2 iL_144 := i_w h (by decide)
  rw [e]; clear e
  refine ax_cutE (pc' := 14) (la := [some (.ref 52), some (.ref 1), some (.int (12 : Int32))]) [some (.ref 52), some (.ref 1), some (.int (12 : Int32))] (st' := []) (σ' := (ax_sI (53, f1, g) 52 1 (12 : Int32))) 3 (And.intro rfl (And.intro rfl (And.intro rfl (trivial)))) (fun _ _ hh => hh) ?_
  obtain ⟨f2, e, h2⟩ : ∃ F2, ax_sI (53, f1, g) 52 1 (12 : Int32) = (53, F2, g) ∧ iH 53 F2 iL_145 := i_w h1 (by decide)
  rw [e]; clear e
  exact ⟨f2, g, ax_endF 1 rfl, h2⟩
theorem i_6_52 (d : Nat) (f : Nat → Nat → Int32) (g : Nat → Nat → Int64) (h : iH 53 f iL_143) : ∃ f2 g2, ax_ev false (d + 2) 6 [.ref 52, .ref 1, .ref 26] (53, f, g) (none, (53, f2, g2)) ∧ iH 53 f2 iL_146 := by
  refine i_ev (Nat.le_of_ble_eq_true rfl) ?_
  show ∃ f2 g2, ax_go false none (ax_ev false (d + 1)) ax_m6 0 [some (.ref 52), some (.ref 1), some (.ref 26)] [] (53, f, g) (none, (53, f2, g2)) ∧ iH 53 f2 iL_146
  obtain ⟨f1, g1, ev1, h1⟩ := i_7_52 (d + 0) f g h
  refine ax_cutE (pc' := 7) (la := [some (.ref 52), some (.ref 1), some (.ref 26)]) [some (.ref 52), some (.ref 1), some (.ref 26)] (st' := []) (σ' := (53, f1, g1)) 4 (And.intro rfl (And.intro rfl (And.intro rfl (trivial)))) (fun _ _ hh => (Exists.intro (none, (53, f1, g1)) (And.intro ev1 hh))) ?_
  refine ax_cutE (pc' := 12) (la := [some (.ref 52), some (.ref 1), some (.ref 26)]) [some (.ref 52), some (.ref 1), some (.ref 26)] (st' := []) (σ' := (ax_sI (53, f1, g1) 52 2 1)) 3 (And.intro rfl (And.intro rfl (And.intro rfl (trivial)))) (fun _ _ hh => hh) ?_
  obtain ⟨f2, e, h2⟩ : ∃ F2, ax_sI (53, f1, g1) 52 2 1 = (53, F2, g1) ∧ iH 53 F2 iL_146 := i_w h1 (by decide)
  rw [e]; clear e
  exact ⟨f2, g1, ax_endF 1 rfl, h2⟩
theorem i_7_53 (d : Nat) (f : Nat → Nat → Int32) (g : Nat → Nat → Int64) (h : iH 54 f iL_148) : ∃ f2 g2, ax_ev false (d + 1) 7 [.ref 53, .ref 1, .int (20 : Int32)] (54, f, g) (none, (54, f2, g2)) ∧ iH 54 f2 iL_150 := by
  refine i_ev (Nat.le_of_ble_eq_true rfl) ?_
  show ∃ f2 g2, ax_go false none (ax_ev false (d + 0)) ax_m7 0 [some (.ref 53), some (.ref 1), some (.int (20 : Int32))] [] (54, f, g) (none, (54, f2, g2)) ∧ iH 54 f2 iL_150
  refine ax_cutE (pc' := 9) (la := [some (.ref 53), some (.ref 1), some (.int (20 : Int32))]) [some (.ref 53), some (.ref 1), some (.int (20 : Int32))] (st' := []) (σ' := (ax_sI (54, f, g) 53 0 1)) 5 (And.intro rfl (And.intro rfl (And.intro rfl (trivial)))) (fun _ _ hh => hh) ?_
  obtain ⟨f1, e, h1⟩ : ∃ F2, ax_sI (54, f, g) 53 0 1 = (54, F2, g) ∧ iH 54 F2 iL_149 := i_w h (by decide)
  rw [e]; clear e
  refine ax_cutE (pc' := 14) (la := [some (.ref 53), some (.ref 1), some (.int (20 : Int32))]) [some (.ref 53), some (.ref 1), some (.int (20 : Int32))] (st' := []) (σ' := (ax_sI (54, f1, g) 53 1 (20 : Int32))) 3 (And.intro rfl (And.intro rfl (And.intro rfl (trivial)))) (fun _ _ hh => hh) ?_
  obtain ⟨f2, e, h2⟩ : ∃ F2, ax_sI (54, f1, g) 53 1 (20 : Int32) = (54, F2, g) ∧ iH 54 F2 iL_150 := i_w h1 (by decide)
  rw [e]; clear e
  exact ⟨f2, g, ax_endF 1 rfl, h2⟩
theorem i_8_53 (d : Nat) (f : Nat → Nat → Int32) (g : Nat → Nat → Int64) (h : iH 54 f iL_148) : ∃ f2 g2, ax_ev false (d + 2) 8 [.ref 53, .ref 1, .ref 25] (54, f, g) (none, (54, f2, g2)) ∧ iH 54 f2 iL_151 := by
  refine i_ev (Nat.le_of_ble_eq_true rfl) ?_
  show ∃ f2 g2, ax_go false none (ax_ev false (d + 1)) ax_m8 0 [some (.ref 53), some (.ref 1), some (.ref 25)] [] (54, f, g) (none, (54, f2, g2)) ∧ iH 54 f2 iL_151
  obtain ⟨f1, g1, ev1, h1⟩ := i_7_53 (d + 0) f g h
  refine ax_cutE (pc' := 7) (la := [some (.ref 53), some (.ref 1), some (.ref 25)]) [some (.ref 53), some (.ref 1), some (.ref 25)] (st' := []) (σ' := (54, f1, g1)) 4 (And.intro rfl (And.intro rfl (And.intro rfl (trivial)))) (fun _ _ hh => (Exists.intro (none, (54, f1, g1)) (And.intro ev1 hh))) ?_
  refine ax_cutE (pc' := 12) (la := [some (.ref 53), some (.ref 1), some (.ref 25)]) [some (.ref 53), some (.ref 1), some (.ref 25)] (st' := []) (σ' := (ax_sI (54, f1, g1) 53 2 1)) 3 (And.intro rfl (And.intro rfl (And.intro rfl (trivial)))) (fun _ _ hh => hh) ?_
  obtain ⟨f2, e, h2⟩ : ∃ F2, ax_sI (54, f1, g1) 53 2 1 = (54, F2, g1) ∧ iH 54 F2 iL_151 := i_w h1 (by decide)
  rw [e]; clear e
  exact ⟨f2, g1, ax_endF 1 rfl, h2⟩
theorem i_7_54 (d : Nat) (f : Nat → Nat → Int32) (g : Nat → Nat → Int64) (h : iH 55 f iL_153) : ∃ f2 g2, ax_ev false (d + 1) 7 [.ref 54, .ref 1, .int (16 : Int32)] (55, f, g) (none, (55, f2, g2)) ∧ iH 55 f2 iL_155 := by
  refine i_ev (Nat.le_of_ble_eq_true rfl) ?_
  show ∃ f2 g2, ax_go false none (ax_ev false (d + 0)) ax_m7 0 [some (.ref 54), some (.ref 1), some (.int (16 : Int32))] [] (55, f, g) (none, (55, f2, g2)) ∧ iH 55 f2 iL_155
  refine ax_cutE (pc' := 9) (la := [some (.ref 54), some (.ref 1), some (.int (16 : Int32))]) [some (.ref 54), some (.ref 1), some (.int (16 : Int32))] (st' := []) (σ' := (ax_sI (55, f, g) 54 0 1)) 5 (And.intro rfl (And.intro rfl (And.intro rfl (trivial)))) (fun _ _ hh => hh) ?_
  obtain ⟨f1, e, h1⟩ : ∃ F2, ax_sI (55, f, g) 54 0 1 = (55, F2, g) ∧ iH 55 F2 iL_154 := i_w h (by decide)
  rw [e]; clear e
  refine ax_cutE (pc' := 14) (la := [some (.ref 54), some (.ref 1), some (.int (16 : Int32))]) [some (.ref 54), some (.ref 1), some (.int (16 : Int32))] (st' := []) (σ' := (ax_sI (55, f1, g) 54 1 (16 : Int32))) 3 (And.intro rfl (And.intro rfl (And.intro rfl (trivial)))) (fun _ _ hh => hh) ?_
  obtain ⟨f2, e, h2⟩ : ∃ F2, ax_sI (55, f1, g) 54 1 (16 : Int32) = (55, F2, g) ∧ iH 55 F2 iL_155 := i_w h1 (by decide)
  rw [e]; clear e
  exact ⟨f2, g, ax_endF 1 rfl, h2⟩
theorem i_9_54 (d : Nat) (f : Nat → Nat → Int32) (g : Nat → Nat → Int64) (h : iH 55 f iL_153) : ∃ f2 g2, ax_ev false (d + 2) 9 [.ref 54, .ref 1, .ref 44] (55, f, g) (none, (55, f2, g2)) ∧ iH 55 f2 iL_156 := by
  refine i_ev (Nat.le_of_ble_eq_true rfl) ?_
  show ∃ f2 g2, ax_go false none (ax_ev false (d + 1)) ax_m9 0 [some (.ref 54), some (.ref 1), some (.ref 44)] [] (55, f, g) (none, (55, f2, g2)) ∧ iH 55 f2 iL_156
  obtain ⟨f1, g1, ev1, h1⟩ := i_7_54 (d + 0) f g h
  refine ax_cutE (pc' := 7) (la := [some (.ref 54), some (.ref 1), some (.ref 44)]) [some (.ref 54), some (.ref 1), some (.ref 44)] (st' := []) (σ' := (55, f1, g1)) 4 (And.intro rfl (And.intro rfl (And.intro rfl (trivial)))) (fun _ _ hh => (Exists.intro (none, (55, f1, g1)) (And.intro ev1 hh))) ?_
  refine ax_cutE (pc' := 12) (la := [some (.ref 54), some (.ref 1), some (.ref 44)]) [some (.ref 54), some (.ref 1), some (.ref 44)] (st' := []) (σ' := (ax_sI (55, f1, g1) 54 2 1)) 3 (And.intro rfl (And.intro rfl (And.intro rfl (trivial)))) (fun _ _ hh => hh) ?_
  obtain ⟨f2, e, h2⟩ : ∃ F2, ax_sI (55, f1, g1) 54 2 1 = (55, F2, g1) ∧ iH 55 F2 iL_156 := i_w h1 (by decide)
  rw [e]; clear e
  exact ⟨f2, g1, ax_endF 1 rfl, h2⟩
theorem i_10_55 (d : Nat) (f : Nat → Nat → Int32) (g : Nat → Nat → Int64) (h : iH 56 f iL_158) : ∃ f2 g2, ax_ev false (d + 1) 10 [.ref 55] (56, f, g) (none, (57, f2, g2)) ∧ iH 57 f2 iL_160 := by
  refine i_ev (Nat.le_of_ble_eq_true rfl) ?_
  show ∃ f2 g2, ax_go false none (ax_ev false (d + 0)) ax_m10 0 [some (.ref 55)] [] (56, f, g) (none, (57, f2, g2)) ∧ iH 57 f2 iL_160
  refine ax_cutE (pc' := 9) (la := [some (.ref 55)]) [some (.ref 55)] (st' := [.ref 56, .ref 55]) (σ' := (ax_nc (56, f, g))) 5 (And.intro rfl (trivial)) (fun _ _ hh => (And.intro rfl hh)) ?_
  obtain ⟨f1, g1, e, h1⟩ : ∃ F2 G2, ax_nc (56, f, g) = (57, F2, G2) ∧ iH 57 F2 iL_159 := i_n h g
  rw [e]; clear e
  refine ax_cutE (pc' := 12) (la := [some (.ref 55)]) [some (.ref 55)] (st' := []) (σ' := (ax_sI (57, f1, g1) 55 0 1)) 1 (And.intro rfl (trivial)) (fun _ _ hh => hh) ?_
  obtain ⟨f2, e, h2⟩ : ∃ F2, ax_sI (57, f1, g1) 55 0 1 = (57, F2, g1) ∧ iH 57 F2 iL_160 := i_w h1 (by decide)
  rw [e]; clear e
  exact ⟨f2, g1, ax_endF 1 rfl, h2⟩
theorem i_11_57 (d : Nat) (f : Nat → Nat → Int32) (g : Nat → Nat → Int64) (h : iH 58 f iL_162) : ∃ f2 g2, ax_ev false (d + 1) 11 [.ref 57] (58, f, g) (none, (59, f2, g2)) ∧ iH 59 f2 iL_164 := by
  refine i_ev (Nat.le_of_ble_eq_true rfl) ?_
  show ∃ f2 g2, ax_go false none (ax_ev false (d + 0)) ax_m11 0 [some (.ref 57)] [] (58, f, g) (none, (59, f2, g2)) ∧ iH 59 f2 iL_164
  refine ax_cutE (pc' := 9) (la := [some (.ref 57)]) [some (.ref 57)] (st' := [.ref 58, .ref 57]) (σ' := (ax_nc (58, f, g))) 5 (And.intro rfl (trivial)) (fun _ _ hh => (And.intro rfl hh)) ?_
  obtain ⟨f1, g1, e, h1⟩ : ∃ F2 G2, ax_nc (58, f, g) = (59, F2, G2) ∧ iH 59 F2 iL_163 := i_n h g
  rw [e]; clear e
  refine ax_cutE (pc' := 12) (la := [some (.ref 57)]) [some (.ref 57)] (st' := []) (σ' := (ax_sI (59, f1, g1) 57 0 1)) 1 (And.intro rfl (trivial)) (fun _ _ hh => hh) ?_
  obtain ⟨f2, e, h2⟩ : ∃ F2, ax_sI (59, f1, g1) 57 0 1 = (59, F2, g1) ∧ iH 59 F2 iL_164 := i_w h1 (by decide)
  rw [e]; clear e
  exact ⟨f2, g1, ax_endF 1 rfl, h2⟩
theorem i_12_59 (d : Nat) (f : Nat → Nat → Int32) (g : Nat → Nat → Int64) (h : iH 60 f iL_166) : ∃ f2 g2, ax_ev false (d + 1) 12 [.ref 59, .ref 1] (60, f, g) (none, (63, f2, g2)) ∧ iH 63 f2 iL_173 := by
  refine i_ev (Nat.le_of_ble_eq_true rfl) ?_
  show ∃ f2 g2, ax_go false none (ax_ev false (d + 0)) ax_m12 0 [some (.ref 59), some (.ref 1)] [] (60, f, g) (none, (63, f2, g2)) ∧ iH 63 f2 iL_173
  refine ax_cutE (pc' := 9) (la := [some (.ref 59), some (.ref 1)]) [some (.ref 59), some (.ref 1)] (st' := [.ref 60, .ref 59]) (σ' := (ax_nc (60, f, g))) 5 (And.intro rfl (And.intro rfl (trivial))) (fun _ _ hh => (And.intro rfl hh)) ?_
  obtain ⟨f1, g1, e, h1⟩ : ∃ F2 G2, ax_nc (60, f, g) = (61, F2, G2) ∧ iH 61 F2 iL_167 := i_n h g
  rw [e]; clear e
  refine ax_cutE (pc' := 12) (la := [some (.ref 59), some (.ref 1)]) [some (.ref 59), some (.ref 1)] (st' := []) (σ' := (ax_sI (61, f1, g1) 59 1 1)) 1 (And.intro rfl (And.intro rfl (trivial))) (fun _ _ hh => hh) ?_
  obtain ⟨f2, e, h2⟩ : ∃ F2, ax_sI (61, f1, g1) 59 1 1 = (61, F2, g1) ∧ iH 61 F2 iL_168 := i_w h1 (by decide)
  rw [e]; clear e
  refine ax_cutE (pc' := 17) (la := [some (.ref 59), some (.ref 1)]) [some (.ref 59), some (.ref 1)] (st' := [.ref 61, .ref 59]) (σ' := (ax_nc (61, f2, g1))) 3 (And.intro rfl (And.intro rfl (trivial))) (fun _ _ hh => (And.intro rfl hh)) ?_
  obtain ⟨f3, g3, e, h3⟩ : ∃ F2 G2, ax_nc (61, f2, g1) = (62, F2, G2) ∧ iH 62 F2 iL_169 := i_n h2 g1
  rw [e]; clear e
  refine ax_cutE (pc' := 20) (la := [some (.ref 59), some (.ref 1)]) [some (.ref 59), some (.ref 1)] (st' := []) (σ' := (ax_sI (62, f3, g3) 59 2 1)) 1 (And.intro rfl (And.intro rfl (trivial))) (fun _ _ hh => hh) ?_
  obtain ⟨f4, e, h4⟩ : ∃ F2, ax_sI (62, f3, g3) 59 2 1 = (62, F2, g3) ∧ iH 62 F2 iL_170 := i_w h3 (by decide)
  rw [e]; clear e
  refine ax_cutE (pc' := 25) (la := [some (.ref 59), some (.ref 1)]) [some (.ref 59), some (.ref 1)] (st' := [.ref 62, .ref 59]) (σ' := (ax_nc (62, f4, g3))) 3 (And.intro rfl (And.intro rfl (trivial))) (fun _ _ hh => (And.intro rfl hh)) ?_
  obtain ⟨f5, g5, e, h5⟩ : ∃ F2 G2, ax_nc (62, f4, g3) = (63, F2, G2) ∧ iH 63 F2 iL_171 := i_n h4 g3
  rw [e]; clear e
  refine ax_cutE (pc' := 28) (la := [some (.ref 59), some (.ref 1)]) [some (.ref 59), some (.ref 1)] (st' := []) (σ' := (ax_sI (63, f5, g5) 59 3 1)) 1 (And.intro rfl (And.intro rfl (trivial))) (fun _ _ hh => hh) ?_
  obtain ⟨f6, e, h6⟩ : ∃ F2, ax_sI (63, f5, g5) 59 3 1 = (63, F2, g5) ∧ iH 63 F2 iL_172 := i_w h5 (by decide)
  rw [e]; clear e
  refine ax_cutE (pc' := 33) (la := [some (.ref 59), some (.ref 1)]) [some (.ref 59), some (.ref 1)] (st' := []) (σ' := (ax_sI (63, f6, g5) 59 0 1)) 3 (And.intro rfl (And.intro rfl (trivial))) (fun _ _ hh => hh) ?_
  obtain ⟨f7, e, h7⟩ : ∃ F2, ax_sI (63, f6, g5) 59 0 1 = (63, F2, g5) ∧ iH 63 F2 iL_173 := i_w h6 (by decide)
  rw [e]; clear e
  exact ⟨f7, g5, ax_endF 1 rfl, h7⟩
theorem i_0_0 (d : Nat) (f : Nat → Nat → Int32) (g : Nat → Nat → Int64) (h : iH 1 f iL_1) : ∃ f2 g2, ax_ev false (d + 4) 0 [.ref 0] (1, f, g) (none, (63, f2, g2)) ∧ iH 63 f2 iL_175 := by
  refine i_ev (Nat.le_of_ble_eq_true rfl) ?_
  show ∃ f2 g2, ax_go false none (ax_ev false (d + 3)) ax_m0 0 [some (.ref 0)] [] (1, f, g) (none, (63, f2, g2)) ∧ iH 63 f2 iL_175
  refine ax_cutE (pc' := 8) (la := [some (.ref 0)]) [some (.ref 0)] (st' := [.ref 1, .ref 0]) (σ' := (ax_nc (1, f, g))) 4 (And.intro rfl (trivial)) (fun _ _ hh => hh) ?_
  obtain ⟨f1, g1, e, h1⟩ : ∃ F2 G2, ax_nc (1, f, g) = (2, F2, G2) ∧ iH 2 F2 iL_2 := i_n h g
  rw [e]; clear e
  obtain ⟨f2, g2, ev2, h2⟩ := i_1_1 (d + 2) f1 g1 h1
  refine ax_cutE (pc' := 12) (la := [some (.ref 0)]) [some (.ref 0)] (st' := [.ref 1, .ref 0]) (σ' := (3, f2, g2)) 2 (And.intro rfl (trivial)) (fun _ _ hh => (Exists.intro (none, (3, f2, g2)) (And.intro ev2 hh))) ?_
  refine ax_cutE (pc' := 15) (la := [some (.ref 0)]) [some (.ref 0)] (st' := []) (σ' := (ax_sI (3, f2, g2) 0 0 1)) 1 (And.intro rfl (trivial)) (fun _ _ hh => hh) ?_
  obtain ⟨f3, e, h3⟩ : ∃ F2, ax_sI (3, f2, g2) 0 0 1 = (3, F2, g2) ∧ iH 3 F2 iL_5 := i_w h2 (by decide)
  rw [e]; clear e
  refine ax_cutE (pc' := 19) (la := [some (.ref 0)]) [some (.ref 0)] (st' := [.ref 3, .ref 0]) (σ' := (ax_nc (3, f3, g2))) 2 (And.intro rfl (trivial)) (fun _ _ hh => hh) ?_
  obtain ⟨f4, g4, e, h4⟩ : ∃ F2 G2, ax_nc (3, f3, g2) = (4, F2, G2) ∧ iH 4 F2 iL_6 := i_n h3 g2
  rw [e]; clear e
  obtain ⟨f5, g5, ev5, h5⟩ := i_2_3 (d + 0) f4 g4 h4
  refine ax_cutE (pc' := 23) (la := [some (.ref 0)]) [some (.ref 0)] (st' := [.ref 3, .ref 0]) (σ' := (14, f5, g5)) 2 (And.intro rfl (trivial)) (fun _ _ hh => (Exists.intro (none, (14, f5, g5)) (And.intro ev5 hh))) ?_
  refine ax_cutE (pc' := 26) (la := [some (.ref 0)]) [some (.ref 0)] (st' := []) (σ' := (ax_sI (14, f5, g5) 0 1 1)) 1 (And.intro rfl (trivial)) (fun _ _ hh => hh) ?_
  obtain ⟨f6, e, h6⟩ : ∃ F2, ax_sI (14, f5, g5) 0 1 1 = (14, F2, g5) ∧ iH 14 F2 iL_40 := i_w h5 (by decide)
  rw [e]; clear e
  refine ax_cutE (pc' := 30) (la := [some (.ref 0)]) [some (.ref 0)] (st' := [.ref 14, .ref 0]) (σ' := (ax_nc (14, f6, g5))) 2 (And.intro rfl (trivial)) (fun _ _ hh => hh) ?_
  obtain ⟨f7, g7, e, h7⟩ : ∃ F2 G2, ax_nc (14, f6, g5) = (15, F2, G2) ∧ iH 15 F2 iL_41 := i_n h6 g5
  rw [e]; clear e
  obtain ⟨f8, g8, ev8, h8⟩ := i_2_14 (d + 0) f7 g7 h7
  refine ax_cutE (pc' := 34) (la := [some (.ref 0)]) [some (.ref 0)] (st' := [.ref 14, .ref 0]) (σ' := (25, f8, g8)) 2 (And.intro rfl (trivial)) (fun _ _ hh => (Exists.intro (none, (25, f8, g8)) (And.intro ev8 hh))) ?_
  refine ax_cutE (pc' := 37) (la := [some (.ref 0)]) [some (.ref 0)] (st' := []) (σ' := (ax_sI (25, f8, g8) 0 2 1)) 1 (And.intro rfl (trivial)) (fun _ _ hh => hh) ?_
  obtain ⟨f9, e, h9⟩ : ∃ F2, ax_sI (25, f8, g8) 0 2 1 = (25, F2, g8) ∧ iH 25 F2 iL_75 := i_w h8 (by decide)
  rw [e]; clear e
  refine ax_cutE (pc' := 41) (la := [some (.ref 0)]) [some (.ref 0)] (st' := [.ref 25, .ref 0]) (σ' := (ax_nc (25, f9, g8))) 2 (And.intro rfl (trivial)) (fun _ _ hh => hh) ?_
  obtain ⟨f10, g10, e, h10⟩ : ∃ F2 G2, ax_nc (25, f9, g8) = (26, F2, G2) ∧ iH 26 F2 iL_76 := i_n h9 g8
  rw [e]; clear e
  obtain ⟨f11, g11, ev11, h11⟩ := i_2_25 (d + 0) f10 g10 h10
  refine ax_cutE (pc' := 45) (la := [some (.ref 0)]) [some (.ref 0)] (st' := [.ref 25, .ref 0]) (σ' := (36, f11, g11)) 2 (And.intro rfl (trivial)) (fun _ _ hh => (Exists.intro (none, (36, f11, g11)) (And.intro ev11 hh))) ?_
  refine ax_cutE (pc' := 48) (la := [some (.ref 0)]) [some (.ref 0)] (st' := []) (σ' := (ax_sI (36, f11, g11) 0 3 1)) 1 (And.intro rfl (trivial)) (fun _ _ hh => hh) ?_
  obtain ⟨f12, e, h12⟩ : ∃ F2, ax_sI (36, f11, g11) 0 3 1 = (36, F2, g11) ∧ iH 36 F2 iL_110 := i_w h11 (by decide)
  rw [e]; clear e
  refine ax_cutE (pc' := 52) (la := [some (.ref 0)]) [some (.ref 0)] (st' := [.ref 36, .ref 0]) (σ' := (ax_nc (36, f12, g11))) 2 (And.intro rfl (trivial)) (fun _ _ hh => hh) ?_
  obtain ⟨f13, g13, e, h13⟩ : ∃ F2 G2, ax_nc (36, f12, g11) = (37, F2, G2) ∧ iH 37 F2 iL_111 := i_n h12 g11
  rw [e]; clear e
  obtain ⟨f14, g14, ev14, h14⟩ := i_5_36 (d + 2) f13 g13 h13
  refine ax_cutE (pc' := 56) (la := [some (.ref 0)]) [some (.ref 0)] (st' := [.ref 36, .ref 0]) (σ' := (44, f14, g14)) 2 (And.intro rfl (trivial)) (fun _ _ hh => (Exists.intro (none, (44, f14, g14)) (And.intro ev14 hh))) ?_
  refine ax_cutE (pc' := 59) (la := [some (.ref 0)]) [some (.ref 0)] (st' := []) (σ' := (ax_sI (44, f14, g14) 0 4 1)) 1 (And.intro rfl (trivial)) (fun _ _ hh => hh) ?_
  obtain ⟨f15, e, h15⟩ : ∃ F2, ax_sI (44, f14, g14) 0 4 1 = (44, F2, g14) ∧ iH 44 F2 iL_126 := i_w h14 (by decide)
  rw [e]; clear e
  refine ax_cutE (pc' := 63) (la := [some (.ref 0)]) [some (.ref 0)] (st' := [.ref 44, .ref 0]) (σ' := (ax_nc (44, f15, g14))) 2 (And.intro rfl (trivial)) (fun _ _ hh => hh) ?_
  obtain ⟨f16, g16, e, h16⟩ : ∃ F2 G2, ax_nc (44, f15, g14) = (45, F2, G2) ∧ iH 45 F2 iL_127 := i_n h15 g14
  rw [e]; clear e
  obtain ⟨f17, g17, ev17, h17⟩ := i_5_44 (d + 2) f16 g16 h16
  refine ax_cutE (pc' := 67) (la := [some (.ref 0)]) [some (.ref 0)] (st' := [.ref 44, .ref 0]) (σ' := (52, f17, g17)) 2 (And.intro rfl (trivial)) (fun _ _ hh => (Exists.intro (none, (52, f17, g17)) (And.intro ev17 hh))) ?_
  refine ax_cutE (pc' := 70) (la := [some (.ref 0)]) [some (.ref 0)] (st' := []) (σ' := (ax_sI (52, f17, g17) 0 5 1)) 1 (And.intro rfl (trivial)) (fun _ _ hh => hh) ?_
  obtain ⟨f18, e, h18⟩ : ∃ F2, ax_sI (52, f17, g17) 0 5 1 = (52, F2, g17) ∧ iH 52 F2 iL_142 := i_w h17 (by decide)
  rw [e]; clear e
  refine ax_cutE (pc' := 74) (la := [some (.ref 0)]) [some (.ref 0)] (st' := [.ref 52, .ref 0]) (σ' := (ax_nc (52, f18, g17))) 2 (And.intro rfl (trivial)) (fun _ _ hh => hh) ?_
  obtain ⟨f19, g19, e, h19⟩ : ∃ F2 G2, ax_nc (52, f18, g17) = (53, F2, G2) ∧ iH 53 F2 iL_143 := i_n h18 g17
  rw [e]; clear e
  obtain ⟨f20, g20, ev20, h20⟩ := i_6_52 (d + 1) f19 g19 h19
  refine ax_cutE (pc' := 89) (la := [some (.ref 0)]) [some (.ref 0)] (st' := [.ref 52, .ref 0]) (σ' := (53, f20, g20)) 7 (And.intro rfl (trivial)) (fun _ _ hh => (And.intro (i_r h19 (by decide) (by decide +kernel)) (And.intro (i_r h19 (by decide) (by decide +kernel)) (And.intro (i_r h19 (by decide) (by decide +kernel)) (Exists.intro (none, (53, f20, g20)) (And.intro ev20 hh)))))) ?_
  refine ax_cutE (pc' := 92) (la := [some (.ref 0)]) [some (.ref 0)] (st' := []) (σ' := (ax_sI (53, f20, g20) 0 6 1)) 1 (And.intro rfl (trivial)) (fun _ _ hh => hh) ?_
  obtain ⟨f21, e, h21⟩ : ∃ F2, ax_sI (53, f20, g20) 0 6 1 = (53, F2, g20) ∧ iH 53 F2 iL_147 := i_w h20 (by decide)
  rw [e]; clear e
  refine ax_cutE (pc' := 96) (la := [some (.ref 0)]) [some (.ref 0)] (st' := [.ref 53, .ref 0]) (σ' := (ax_nc (53, f21, g20))) 2 (And.intro rfl (trivial)) (fun _ _ hh => hh) ?_
  obtain ⟨f22, g22, e, h22⟩ : ∃ F2 G2, ax_nc (53, f21, g20) = (54, F2, G2) ∧ iH 54 F2 iL_148 := i_n h21 g20
  rw [e]; clear e
  obtain ⟨f23, g23, ev23, h23⟩ := i_8_53 (d + 1) f22 g22 h22
  refine ax_cutE (pc' := 108) (la := [some (.ref 0)]) [some (.ref 0)] (st' := [.ref 53, .ref 0]) (σ' := (54, f23, g23)) 6 (And.intro rfl (trivial)) (fun _ _ hh => (And.intro (i_r h22 (by decide) (by decide +kernel)) (And.intro (i_r h22 (by decide) (by decide +kernel)) (Exists.intro (none, (54, f23, g23)) (And.intro ev23 hh))))) ?_
  refine ax_cutE (pc' := 111) (la := [some (.ref 0)]) [some (.ref 0)] (st' := []) (σ' := (ax_sI (54, f23, g23) 0 7 1)) 1 (And.intro rfl (trivial)) (fun _ _ hh => hh) ?_
  obtain ⟨f24, e, h24⟩ : ∃ F2, ax_sI (54, f23, g23) 0 7 1 = (54, F2, g23) ∧ iH 54 F2 iL_152 := i_w h23 (by decide)
  rw [e]; clear e
  refine ax_cutE (pc' := 115) (la := [some (.ref 0)]) [some (.ref 0)] (st' := [.ref 54, .ref 0]) (σ' := (ax_nc (54, f24, g23))) 2 (And.intro rfl (trivial)) (fun _ _ hh => hh) ?_
  obtain ⟨f25, g25, e, h25⟩ : ∃ F2 G2, ax_nc (54, f24, g23) = (55, F2, G2) ∧ iH 55 F2 iL_153 := i_n h24 g23
  rw [e]; clear e
  obtain ⟨f26, g26, ev26, h26⟩ := i_9_54 (d + 1) f25 g25 h25
  refine ax_cutE (pc' := 127) (la := [some (.ref 0)]) [some (.ref 0)] (st' := [.ref 54, .ref 0]) (σ' := (55, f26, g26)) 6 (And.intro rfl (trivial)) (fun _ _ hh => (And.intro (i_r h25 (by decide) (by decide +kernel)) (And.intro (i_r h25 (by decide) (by decide +kernel)) (Exists.intro (none, (55, f26, g26)) (And.intro ev26 hh))))) ?_
  refine ax_cutE (pc' := 130) (la := [some (.ref 0)]) [some (.ref 0)] (st' := []) (σ' := (ax_sI (55, f26, g26) 0 8 1)) 1 (And.intro rfl (trivial)) (fun _ _ hh => hh) ?_
  obtain ⟨f27, e, h27⟩ : ∃ F2, ax_sI (55, f26, g26) 0 8 1 = (55, F2, g26) ∧ iH 55 F2 iL_157 := i_w h26 (by decide)
  rw [e]; clear e
  refine ax_cutE (pc' := 134) (la := [some (.ref 0)]) [some (.ref 0)] (st' := [.ref 55, .ref 0]) (σ' := (ax_nc (55, f27, g26))) 2 (And.intro rfl (trivial)) (fun _ _ hh => hh) ?_
  obtain ⟨f28, g28, e, h28⟩ : ∃ F2 G2, ax_nc (55, f27, g26) = (56, F2, G2) ∧ iH 56 F2 iL_158 := i_n h27 g26
  rw [e]; clear e
  obtain ⟨f29, g29, ev29, h29⟩ := i_10_55 (d + 2) f28 g28 h28
  refine ax_cutE (pc' := 138) (la := [some (.ref 0)]) [some (.ref 0)] (st' := [.ref 55, .ref 0]) (σ' := (57, f29, g29)) 2 (And.intro rfl (trivial)) (fun _ _ hh => (Exists.intro (none, (57, f29, g29)) (And.intro ev29 hh))) ?_
  refine ax_cutE (pc' := 141) (la := [some (.ref 0)]) [some (.ref 0)] (st' := []) (σ' := (ax_sI (57, f29, g29) 0 9 1)) 1 (And.intro rfl (trivial)) (fun _ _ hh => hh) ?_
  obtain ⟨f30, e, h30⟩ : ∃ F2, ax_sI (57, f29, g29) 0 9 1 = (57, F2, g29) ∧ iH 57 F2 iL_161 := i_w h29 (by decide)
  rw [e]; clear e
  refine ax_cutE (pc' := 145) (la := [some (.ref 0)]) [some (.ref 0)] (st' := [.ref 57, .ref 0]) (σ' := (ax_nc (57, f30, g29))) 2 (And.intro rfl (trivial)) (fun _ _ hh => hh) ?_
  obtain ⟨f31, g31, e, h31⟩ : ∃ F2 G2, ax_nc (57, f30, g29) = (58, F2, G2) ∧ iH 58 F2 iL_162 := i_n h30 g29
  rw [e]; clear e
  obtain ⟨f32, g32, ev32, h32⟩ := i_11_57 (d + 2) f31 g31 h31
  refine ax_cutE (pc' := 149) (la := [some (.ref 0)]) [some (.ref 0)] (st' := [.ref 57, .ref 0]) (σ' := (59, f32, g32)) 2 (And.intro rfl (trivial)) (fun _ _ hh => (Exists.intro (none, (59, f32, g32)) (And.intro ev32 hh))) ?_
  refine ax_cutE (pc' := 152) (la := [some (.ref 0)]) [some (.ref 0)] (st' := []) (σ' := (ax_sI (59, f32, g32) 0 10 1)) 1 (And.intro rfl (trivial)) (fun _ _ hh => hh) ?_
  obtain ⟨f33, e, h33⟩ : ∃ F2, ax_sI (59, f32, g32) 0 10 1 = (59, F2, g32) ∧ iH 59 F2 iL_165 := i_w h32 (by decide)
  rw [e]; clear e
  refine ax_cutE (pc' := 156) (la := [some (.ref 0)]) [some (.ref 0)] (st' := [.ref 59, .ref 0]) (σ' := (ax_nc (59, f33, g32))) 2 (And.intro rfl (trivial)) (fun _ _ hh => hh) ?_
  obtain ⟨f34, g34, e, h34⟩ : ∃ F2 G2, ax_nc (59, f33, g32) = (60, F2, G2) ∧ iH 60 F2 iL_166 := i_n h33 g32
  rw [e]; clear e
  obtain ⟨f35, g35, ev35, h35⟩ := i_12_59 (d + 2) f34 g34 h34
  refine ax_cutE (pc' := 164) (la := [some (.ref 0)]) [some (.ref 0)] (st' := [.ref 59, .ref 0]) (σ' := (63, f35, g35)) 4 (And.intro rfl (trivial)) (fun _ _ hh => (And.intro (i_r h34 (by decide) (by decide +kernel)) (Exists.intro (none, (63, f35, g35)) (And.intro ev35 hh)))) ?_
  refine ax_cutE (pc' := 167) (la := [some (.ref 0)]) [some (.ref 0)] (st' := []) (σ' := (ax_sI (63, f35, g35) 0 11 1)) 1 (And.intro rfl (trivial)) (fun _ _ hh => hh) ?_
  obtain ⟨f36, e, h36⟩ : ∃ F2, ax_sI (63, f35, g35) 0 11 1 = (63, F2, g35) ∧ iH 63 F2 iL_174 := i_w h35 (by decide)
  rw [e]; clear e
  refine ax_cutE (pc' := 173) (la := [some (.ref 0)]) [some (.ref 0)] (st' := []) (σ' := (ax_sI (63, f36, g35) 0 12 (50 : Int32))) 3 (And.intro rfl (trivial)) (fun _ _ hh => hh) ?_
  obtain ⟨f37, e, h37⟩ : ∃ F2, ax_sI (63, f36, g35) 0 12 (50 : Int32) = (63, F2, g35) ∧ iH 63 F2 iL_175 := i_w h36 (by decide)
  rw [e]; clear e
  exact ⟨f37, g35, ax_endF 1 rfl, h37⟩
