/-! constructors, 3 -/
theorem i_176_63 (d : Nat) (f : Nat → Nat → Int32) (g : Nat → Nat → Int64) (h : iH 64 f iL_176) : ∃ f2 g2, ax_ev false (d + 1) 176 [.ref 63] (64, f, g) (none, (83, f2, g2)) ∧ iH 83 f2 iL_244 := by
  refine i_ev (Nat.le_of_ble_eq_true rfl) ?_
  show ∃ f2 g2, ax_go false none (ax_ev false (d + 0)) ax_m176 0 [some (.ref 63), none] [] (64, f, g) (none, (83, f2, g2)) ∧ iH 83 f2 iL_244
  refine ax_cutE (pc' := 10) (la := [some (.ref 63), none]) [some (.ref 63), none] (st' := [.ref 64, .ref 63]) (σ' := (ax_nc (64, f, g))) 5 (And.intro rfl (trivial)) (fun _ _ hh => (And.intro rfl hh)) ?_
  obtain ⟨f1, g1, e, h1⟩ : ∃ F2 G2, ax_nc (64, f, g) = (65, F2, G2) ∧ iH 65 F2 iL_177 := i_n h g
  rw [e]; clear e
  refine ax_cutE (pc' := 13) (la := [some (.ref 63), none]) [some (.ref 63), none] (st' := []) (σ' := (ax_sI (65, f1, g1) 63 0 1)) 1 (And.intro rfl (trivial)) (fun _ _ hh => hh) ?_
  obtain ⟨f2, e, h2⟩ : ∃ F2, ax_sI (65, f1, g1) 63 0 1 = (65, F2, g1) ∧ iH 65 F2 iL_178 := i_w h1 (by decide)
  rw [e]; clear e
  refine ax_cutE (pc' := 19) (la := [some (.ref 63), none]) [some (.ref 63), none] (st' := [.ref 65, .ref 63]) (σ' := (ax_nc (65, f2, g1))) 3 (And.intro rfl (trivial)) (fun _ _ hh => (And.intro rfl hh)) ?_
  obtain ⟨f3, g3, e, h3⟩ : ∃ F2 G2, ax_nc (65, f2, g1) = (66, F2, G2) ∧ iH 66 F2 iL_179 := i_n h2 g1
  rw [e]; clear e
  refine ax_cutE (pc' := 22) (la := [some (.ref 63), none]) [some (.ref 63), none] (st' := []) (σ' := (ax_sI (66, f3, g3) 63 1 1)) 1 (And.intro rfl (trivial)) (fun _ _ hh => hh) ?_
  obtain ⟨f4, e, h4⟩ : ∃ F2, ax_sI (66, f3, g3) 63 1 1 = (66, F2, g3) ∧ iH 66 F2 iL_180 := i_w h3 (by decide)
  rw [e]; clear e
  refine ax_cutE (pc' := 28) (la := [some (.ref 63), none]) [some (.ref 63), none] (st' := [.ref 66, .ref 63]) (σ' := (ax_nc (66, f4, g3))) 3 (And.intro rfl (trivial)) (fun _ _ hh => (And.intro rfl hh)) ?_
  obtain ⟨f5, g5, e, h5⟩ : ∃ F2 G2, ax_nc (66, f4, g3) = (67, F2, G2) ∧ iH 67 F2 iL_181 := i_n h4 g3
  rw [e]; clear e
  refine ax_cutE (pc' := 31) (la := [some (.ref 63), none]) [some (.ref 63), none] (st' := []) (σ' := (ax_sI (67, f5, g5) 63 2 1)) 1 (And.intro rfl (trivial)) (fun _ _ hh => hh) ?_
  obtain ⟨f6, e, h6⟩ : ∃ F2, ax_sI (67, f5, g5) 63 2 1 = (67, F2, g5) ∧ iH 67 F2 iL_182 := i_w h5 (by decide)
  rw [e]; clear e
  refine ax_cutE (pc' := 37) (la := [some (.ref 63), none]) [some (.ref 63), none] (st' := [.ref 67, .ref 63]) (σ' := (ax_nc (67, f6, g5))) 3 (And.intro rfl (trivial)) (fun _ _ hh => (And.intro rfl hh)) ?_
  obtain ⟨f7, g7, e, h7⟩ : ∃ F2 G2, ax_nc (67, f6, g5) = (68, F2, G2) ∧ iH 68 F2 iL_183 := i_n h6 g5
  rw [e]; clear e
  refine ax_cutE (pc' := 40) (la := [some (.ref 63), none]) [some (.ref 63), none] (st' := []) (σ' := (ax_sI (68, f7, g7) 63 4 1)) 1 (And.intro rfl (trivial)) (fun _ _ hh => hh) ?_
  obtain ⟨f8, e, h8⟩ : ∃ F2, ax_sI (68, f7, g7) 63 4 1 = (68, F2, g7) ∧ iH 68 F2 iL_184 := i_w h7 (by decide)
  rw [e]; clear e
  refine ax_cutE (pc' := 46) (la := [some (.ref 63), none]) [some (.ref 63), none] (st' := [.ref 68, .ref 63]) (σ' := (ax_nc (68, f8, g7))) 3 (And.intro rfl (trivial)) (fun _ _ hh => (And.intro rfl hh)) ?_
  obtain ⟨f9, g9, e, h9⟩ : ∃ F2 G2, ax_nc (68, f8, g7) = (69, F2, G2) ∧ iH 69 F2 iL_185 := i_n h8 g7
  rw [e]; clear e
  refine ax_cutE (pc' := 49) (la := [some (.ref 63), none]) [some (.ref 63), none] (st' := []) (σ' := (ax_sI (69, f9, g9) 63 15 1)) 1 (And.intro rfl (trivial)) (fun _ _ hh => hh) ?_
  obtain ⟨f10, e, h10⟩ : ∃ F2, ax_sI (69, f9, g9) 63 15 1 = (69, F2, g9) ∧ iH 69 F2 iL_186 := i_w h9 (by decide)
  rw [e]; clear e
  refine ax_cutE (pc' := 55) (la := [some (.ref 63), none]) [some (.ref 63), none] (st' := [.ref 69, .ref 63]) (σ' := (ax_nc (69, f10, g9))) 3 (And.intro rfl (trivial)) (fun _ _ hh => (And.intro rfl hh)) ?_
  obtain ⟨f11, g11, e, h11⟩ : ∃ F2 G2, ax_nc (69, f10, g9) = (70, F2, G2) ∧ iH 70 F2 iL_187 := i_n h10 g9
  rw [e]; clear e
  refine ax_cutE (pc' := 58) (la := [some (.ref 63), none]) [some (.ref 63), none] (st' := []) (σ' := (ax_sI (70, f11, g11) 63 16 1)) 1 (And.intro rfl (trivial)) (fun _ _ hh => hh) ?_
  obtain ⟨f12, e, h12⟩ : ∃ F2, ax_sI (70, f11, g11) 63 16 1 = (70, F2, g11) ∧ iH 70 F2 iL_188 := i_w h11 (by decide)
  rw [e]; clear e
  refine ax_cutE (pc' := 63) (la := [some (.ref 63), none]) [some (.ref 63), none] (st' := [.ref 70, .ref 63]) (σ' := (ax_nc (70, f12, g11))) 3 (And.intro rfl (trivial)) (fun _ _ hh => (And.intro rfl hh)) ?_
  obtain ⟨f13, g13, e, h13⟩ : ∃ F2 G2, ax_nc (70, f12, g11) = (71, F2, G2) ∧ iH 71 F2 iL_189 := i_n h12 g11
  rw [e]; clear e
  refine ax_cutE (pc' := 66) (la := [some (.ref 63), none]) [some (.ref 63), none] (st' := []) (σ' := (ax_sI (71, f13, g13) 63 17 1)) 1 (And.intro rfl (trivial)) (fun _ _ hh => hh) ?_
  obtain ⟨f14, e, h14⟩ : ∃ F2, ax_sI (71, f13, g13) 63 17 1 = (71, F2, g13) ∧ iH 71 F2 iL_190 := i_w h13 (by decide)
  rw [e]; clear e
  refine ax_cutE (pc' := 71) (la := [some (.ref 63), none]) [some (.ref 63), none] (st' := [.ref 71, .ref 63]) (σ' := (ax_nc (71, f14, g13))) 3 (And.intro rfl (trivial)) (fun _ _ hh => (And.intro rfl hh)) ?_
  obtain ⟨f15, g15, e, h15⟩ : ∃ F2 G2, ax_nc (71, f14, g13) = (72, F2, G2) ∧ iH 72 F2 iL_191 := i_n h14 g13
  rw [e]; clear e
  refine ax_cutE (pc' := 74) (la := [some (.ref 63), none]) [some (.ref 63), none] (st' := []) (σ' := (ax_sI (72, f15, g15) 63 18 1)) 1 (And.intro rfl (trivial)) (fun _ _ hh => hh) ?_
  obtain ⟨f16, e, h16⟩ : ∃ F2, ax_sI (72, f15, g15) 63 18 1 = (72, F2, g15) ∧ iH 72 F2 iL_192 := i_w h15 (by decide)
  rw [e]; clear e
  refine ax_cutE (pc' := 79) (la := [some (.ref 63), none]) [some (.ref 63), none] (st' := [.ref 72, .ref 63]) (σ' := (ax_nc (72, f16, g15))) 3 (And.intro rfl (trivial)) (fun _ _ hh => (And.intro rfl hh)) ?_
  obtain ⟨f17, g17, e, h17⟩ : ∃ F2 G2, ax_nc (72, f16, g15) = (73, F2, G2) ∧ iH 73 F2 iL_193 := i_n h16 g15
  rw [e]; clear e
  refine ax_cutE (pc' := 82) (la := [some (.ref 63), none]) [some (.ref 63), none] (st' := []) (σ' := (ax_sI (73, f17, g17) 63 19 1)) 1 (And.intro rfl (trivial)) (fun _ _ hh => hh) ?_
  obtain ⟨f18, e, h18⟩ : ∃ F2, ax_sI (73, f17, g17) 63 19 1 = (73, F2, g17) ∧ iH 73 F2 iL_194 := i_w h17 (by decide)
  rw [e]; clear e
  refine ax_cutE (pc' := 87) (la := [some (.ref 63), none]) [some (.ref 63), none] (st' := [.ref 73, .ref 63]) (σ' := (ax_nc (73, f18, g17))) 3 (And.intro rfl (trivial)) (fun _ _ hh => (And.intro rfl hh)) ?_
  obtain ⟨f19, g19, e, h19⟩ : ∃ F2 G2, ax_nc (73, f18, g17) = (74, F2, G2) ∧ iH 74 F2 iL_195 := i_n h18 g17
  rw [e]; clear e
  refine ax_cutE (pc' := 90) (la := [some (.ref 63), none]) [some (.ref 63), none] (st' := []) (σ' := (ax_sI (74, f19, g19) 63 20 1)) 1 (And.intro rfl (trivial)) (fun _ _ hh => hh) ?_
  obtain ⟨f20, e, h20⟩ : ∃ F2, ax_sI (74, f19, g19) 63 20 1 = (74, F2, g19) ∧ iH 74 F2 iL_196 := i_w h19 (by decide)
  rw [e]; clear e
  refine ax_cutE (pc' := 96) (la := [some (.ref 63), none]) [some (.ref 63), none] (st' := [.ref 74, .ref 63]) (σ' := (ax_nc (74, f20, g19))) 3 (And.intro rfl (trivial)) (fun _ _ hh => (And.intro rfl hh)) ?_
  obtain ⟨f21, g21, e, h21⟩ : ∃ F2 G2, ax_nc (74, f20, g19) = (75, F2, G2) ∧ iH 75 F2 iL_197 := i_n h20 g19
  rw [e]; clear e
  refine ax_cutE (pc' := 99) (la := [some (.ref 63), none]) [some (.ref 63), none] (st' := []) (σ' := (ax_sI (75, f21, g21) 63 21 1)) 1 (And.intro rfl (trivial)) (fun _ _ hh => hh) ?_
  obtain ⟨f22, e, h22⟩ : ∃ F2, ax_sI (75, f21, g21) 63 21 1 = (75, F2, g21) ∧ iH 75 F2 iL_198 := i_w h21 (by decide)
  rw [e]; clear e
  refine ax_cutE (pc' := 104) (la := [some (.ref 63), none]) [some (.ref 63), none] (st' := [.ref 75, .ref 63]) (σ' := (ax_nc (75, f22, g21))) 3 (And.intro rfl (trivial)) (fun _ _ hh => (And.intro rfl hh)) ?_
  obtain ⟨f23, g23, e, h23⟩ : ∃ F2 G2, ax_nc (75, f22, g21) = (76, F2, G2) ∧ iH 76 F2 iL_199 := i_n h22 g21
  rw [e]; clear e
  refine ax_cutE (pc' := 107) (la := [some (.ref 63), none]) [some (.ref 63), none] (st' := []) (σ' := (ax_sI (76, f23, g23) 63 22 1)) 1 (And.intro rfl (trivial)) (fun _ _ hh => hh) ?_
  obtain ⟨f24, e, h24⟩ : ∃ F2, ax_sI (76, f23, g23) 63 22 1 = (76, F2, g23) ∧ iH 76 F2 iL_200 := i_w h23 (by decide)
  rw [e]; clear e
  refine ax_cutE (pc' := 112) (la := [some (.ref 63), none]) [some (.ref 63), none] (st' := [.ref 76, .ref 63]) (σ' := (ax_nc (76, f24, g23))) 3 (And.intro rfl (trivial)) (fun _ _ hh => (And.intro rfl hh)) ?_
  obtain ⟨f25, g25, e, h25⟩ : ∃ F2 G2, ax_nc (76, f24, g23) = (77, F2, G2) ∧ iH 77 F2 iL_201 := i_n h24 g23
  rw [e]; clear e
  refine ax_cutE (pc' := 115) (la := [some (.ref 63), none]) [some (.ref 63), none] (st' := []) (σ' := (ax_sI (77, f25, g25) 63 23 1)) 1 (And.intro rfl (trivial)) (fun _ _ hh => hh) ?_
  obtain ⟨f26, e, h26⟩ : ∃ F2, ax_sI (77, f25, g25) 63 23 1 = (77, F2, g25) ∧ iH 77 F2 iL_202 := i_w h25 (by decide)
  rw [e]; clear e
  refine ax_cutE (pc' := 120) (la := [some (.ref 63), none]) [some (.ref 63), none] (st' := [.ref 77, .ref 63]) (σ' := (ax_nc (77, f26, g25))) 3 (And.intro rfl (trivial)) (fun _ _ hh => (And.intro rfl hh)) ?_
  obtain ⟨f27, g27, e, h27⟩ : ∃ F2 G2, ax_nc (77, f26, g25) = (78, F2, G2) ∧ iH 78 F2 iL_203 := i_n h26 g25
  rw [e]; clear e
  refine ax_cutE (pc' := 123) (la := [some (.ref 63), none]) [some (.ref 63), none] (st' := []) (σ' := (ax_sI (78, f27, g27) 63 24 1)) 1 (And.intro rfl (trivial)) (fun _ _ hh => hh) ?_
  obtain ⟨f28, e, h28⟩ : ∃ F2, ax_sI (78, f27, g27) 63 24 1 = (78, F2, g27) ∧ iH 78 F2 iL_204 := i_w h27 (by decide)
  rw [e]; clear e
  refine ax_cutE (pc' := 128) (la := [some (.ref 63), none]) [some (.ref 63), none] (st' := [.ref 78, .ref 63]) (σ' := (ax_nc (78, f28, g27))) 3 (And.intro rfl (trivial)) (fun _ _ hh => (And.intro rfl hh)) ?_
  obtain ⟨f29, g29, e, h29⟩ : ∃ F2 G2, ax_nc (78, f28, g27) = (79, F2, G2) ∧ iH 79 F2 iL_205 := i_n h28 g27
  rw [e]; clear e
  refine ax_cutE (pc' := 131) (la := [some (.ref 63), none]) [some (.ref 63), none] (st' := []) (σ' := (ax_sI (79, f29, g29) 63 25 1)) 1 (And.intro rfl (trivial)) (fun _ _ hh => hh) ?_
  obtain ⟨f30, e, h30⟩ : ∃ F2, ax_sI (79, f29, g29) 63 25 1 = (79, F2, g29) ∧ iH 79 F2 iL_206 := i_w h29 (by decide)
  rw [e]; clear e
  refine ax_cutE (pc' := 137) (la := [some (.ref 63), none]) [some (.ref 63), none] (st' := [.ref 79, .ref 63]) (σ' := (ax_nc (79, f30, g29))) 3 (And.intro rfl (trivial)) (fun _ _ hh => (And.intro rfl hh)) ?_
  obtain ⟨f31, g31, e, h31⟩ : ∃ F2 G2, ax_nc (79, f30, g29) = (80, F2, G2) ∧ iH 80 F2 iL_207 := i_n h30 g29
  rw [e]; clear e
  refine ax_cutE (pc' := 140) (la := [some (.ref 63), none]) [some (.ref 63), none] (st' := []) (σ' := (ax_sI (80, f31, g31) 63 26 1)) 1 (And.intro rfl (trivial)) (fun _ _ hh => hh) ?_
  obtain ⟨f32, e, h32⟩ : ∃ F2, ax_sI (80, f31, g31) 63 26 1 = (80, F2, g31) ∧ iH 80 F2 iL_208 := i_w h31 (by decide)
  rw [e]; clear e
  refine ax_cutE (pc' := 145) (la := [some (.ref 63), none]) [some (.ref 63), none] (st' := [.ref 80, .ref 63]) (σ' := (ax_nc (80, f32, g31))) 3 (And.intro rfl (trivial)) (fun _ _ hh => (And.intro rfl hh)) ?_
  obtain ⟨f33, g33, e, h33⟩ : ∃ F2 G2, ax_nc (80, f32, g31) = (81, F2, G2) ∧ iH 81 F2 iL_209 := i_n h32 g31
  rw [e]; clear e
  refine ax_cutE (pc' := 148) (la := [some (.ref 63), none]) [some (.ref 63), none] (st' := []) (σ' := (ax_sI (81, f33, g33) 63 27 1)) 1 (And.intro rfl (trivial)) (fun _ _ hh => hh) ?_
  obtain ⟨f34, e, h34⟩ : ∃ F2, ax_sI (81, f33, g33) 63 27 1 = (81, F2, g33) ∧ iH 81 F2 iL_210 := i_w h33 (by decide)
  rw [e]; clear e
  refine ax_cutE (pc' := 153) (la := [some (.ref 63), none]) [some (.ref 63), none] (st' := [.ref 81, .ref 63]) (σ' := (ax_nc (81, f34, g33))) 3 (And.intro rfl (trivial)) (fun _ _ hh => (And.intro rfl hh)) ?_
  obtain ⟨f35, g35, e, h35⟩ : ∃ F2 G2, ax_nc (81, f34, g33) = (82, F2, G2) ∧ iH 82 F2 iL_211 := i_n h34 g33
  rw [e]; clear e
  refine ax_cutE (pc' := 156) (la := [some (.ref 63), none]) [some (.ref 63), none] (st' := []) (σ' := (ax_sI (82, f35, g35) 63 37 1)) 1 (And.intro rfl (trivial)) (fun _ _ hh => hh) ?_
  obtain ⟨f36, e, h36⟩ : ∃ F2, ax_sI (82, f35, g35) 63 37 1 = (82, F2, g35) ∧ iH 82 F2 iL_212 := i_w h35 (by decide)
  rw [e]; clear e
  refine ax_cutE (pc' := 161) (la := [some (.ref 63), none]) [some (.ref 63), none] (st' := [.ref 82, .ref 63]) (σ' := (ax_nc (82, f36, g35))) 3 (And.intro rfl (trivial)) (fun _ _ hh => (And.intro rfl hh)) ?_
  obtain ⟨f37, g37, e, h37⟩ : ∃ F2 G2, ax_nc (82, f36, g35) = (83, F2, G2) ∧ iH 83 F2 iL_213 := i_n h36 g35
  rw [e]; clear e
  refine ax_cutE (pc' := 164) (la := [some (.ref 63), none]) [some (.ref 63), none] (st' := []) (σ' := (ax_sI (83, f37, g37) 63 38 1)) 1 (And.intro rfl (trivial)) (fun _ _ hh => hh) ?_
  obtain ⟨f38, e, h38⟩ : ∃ F2, ax_sI (83, f37, g37) 63 38 1 = (83, F2, g37) ∧ iH 83 F2 iL_214 := i_w h37 (by decide)
  rw [e]; clear e
  refine ax_cutE (pc' := 173) (la := [some (.ref 63), none]) [some (.ref 63), none] (st' := []) (σ' := (ax_sI (83, f38, g37) 64 290 (1 : Int32))) 5 (And.intro rfl (trivial)) (fun _ _ hh => (And.intro (i_r h38 (by decide) (by decide +kernel)) (And.intro (show ¬ ((290 : Int32) < 0 ∨ 291 ≤ ((290 : Int32)).toNatClampNeg) by decide) hh))) ?_
  obtain ⟨f39, e, h39⟩ : ∃ F2, ax_sI (83, f38, g37) 64 290 (1 : Int32) = (83, F2, g37) ∧ iH 83 F2 iL_215 := i_w h38 (by decide)
  rw [e]; clear e
  refine ax_cutE (pc' := 179) (la := [some (.ref 63), none]) [some (.ref 63), none] (st' := []) (σ' := (ax_sI (83, f39, g37) 63 3 (50 : Int32))) 3 (And.intro rfl (trivial)) (fun _ _ hh => hh) ?_
  obtain ⟨f40, e, h40⟩ : ∃ F2, ax_sI (83, f39, g37) 63 3 (50 : Int32) = (83, F2, g37) ∧ iH 83 F2 iL_216 := i_w h39 (by decide)
  rw [e]; clear e
  refine ax_cutE (pc' := 194) (la := [some (.ref 63), some (.int (0 : Int32))]) [some (.ref 63), some (.int (0 : Int32))] (st' := [.int (0 : Int32), .ref 64]) (σ' := (83, f40, g37)) 10 (And.intro rfl (And.intro rfl (trivial))) (fun _ _ hh => (And.intro (fun q => absurd q (show ¬ ((12 : Int32) ≤ (0 : Int32) : Prop) by decide)) (fun _ => (And.intro (i_r h40 (by decide) (by decide +kernel)) hh)))) ?_
  refine ax_cutE (pc' := 196) (la := [some (.ref 63), some (.int (0 : Int32))]) [some (.ref 63), some (.int (0 : Int32))] (st' := []) (σ' := (ax_sI (83, f40, g37) 64 0 (-1 : Int32))) 2 (And.intro rfl (And.intro rfl (trivial))) (fun _ _ hh => (And.intro (show ¬ ((0 : Int32) < 0 ∨ 291 ≤ ((0 : Int32)).toNatClampNeg) by decide) hh)) ?_
  obtain ⟨f41, e, h41⟩ : ∃ F2, ax_sI (83, f40, g37) 64 0 (-1 : Int32) = (83, F2, g37) ∧ iH 83 F2 iL_217 := i_w h40 (by decide)
  rw [e]; clear e
  refine ax_cutE (pc' := 194) (la := [some (.ref 63), some (.int (1 : Int32))]) [some (.ref 63), some (.int (1 : Int32))] (st' := [.int (1 : Int32), .ref 64]) (σ' := (83, f41, g37)) 10 (And.intro rfl (And.intro rfl (trivial))) (fun _ _ hh => (And.intro (fun q => absurd q (show ¬ ((12 : Int32) ≤ (1 : Int32) : Prop) by decide)) (fun _ => (And.intro (i_r h41 (by decide) (by decide +kernel)) hh)))) ?_
  refine ax_cutE (pc' := 196) (la := [some (.ref 63), some (.int (1 : Int32))]) [some (.ref 63), some (.int (1 : Int32))] (st' := []) (σ' := (ax_sI (83, f41, g37) 64 1 (-1 : Int32))) 2 (And.intro rfl (And.intro rfl (trivial))) (fun _ _ hh => (And.intro (show ¬ ((1 : Int32) < 0 ∨ 291 ≤ ((1 : Int32)).toNatClampNeg) by decide) hh)) ?_
  obtain ⟨f42, e, h42⟩ : ∃ F2, ax_sI (83, f41, g37) 64 1 (-1 : Int32) = (83, F2, g37) ∧ iH 83 F2 iL_218 := i_w h41 (by decide)
  rw [e]; clear e
  refine ax_cutE (pc' := 194) (la := [some (.ref 63), some (.int (2 : Int32))]) [some (.ref 63), some (.int (2 : Int32))] (st' := [.int (2 : Int32), .ref 64]) (σ' := (83, f42, g37)) 10 (And.intro rfl (And.intro rfl (trivial))) (fun _ _ hh => (And.intro (fun q => absurd q (show ¬ ((12 : Int32) ≤ (2 : Int32) : Prop) by decide)) (fun _ => (And.intro (i_r h42 (by decide) (by decide +kernel)) hh)))) ?_
  refine ax_cutE (pc' := 196) (la := [some (.ref 63), some (.int (2 : Int32))]) [some (.ref 63), some (.int (2 : Int32))] (st' := []) (σ' := (ax_sI (83, f42, g37) 64 2 (-1 : Int32))) 2 (And.intro rfl (And.intro rfl (trivial))) (fun _ _ hh => (And.intro (show ¬ ((2 : Int32) < 0 ∨ 291 ≤ ((2 : Int32)).toNatClampNeg) by decide) hh)) ?_
  obtain ⟨f43, e, h43⟩ : ∃ F2, ax_sI (83, f42, g37) 64 2 (-1 : Int32) = (83, F2, g37) ∧ iH 83 F2 iL_219 := i_w h42 (by decide)
  rw [e]; clear e
  refine ax_cutE (pc' := 194) (la := [some (.ref 63), some (.int (3 : Int32))]) [some (.ref 63), some (.int (3 : Int32))] (st' := [.int (3 : Int32), .ref 64]) (σ' := (83, f43, g37)) 10 (And.intro rfl (And.intro rfl (trivial))) (fun _ _ hh => (And.intro (fun q => absurd q (show ¬ ((12 : Int32) ≤ (3 : Int32) : Prop) by decide)) (fun _ => (And.intro (i_r h43 (by decide) (by decide +kernel)) hh)))) ?_
  refine ax_cutE (pc' := 196) (la := [some (.ref 63), some (.int (3 : Int32))]) [some (.ref 63), some (.int (3 : Int32))] (st' := []) (σ' := (ax_sI (83, f43, g37) 64 3 (-1 : Int32))) 2 (And.intro rfl (And.intro rfl (trivial))) (fun _ _ hh => (And.intro (show ¬ ((3 : Int32) < 0 ∨ 291 ≤ ((3 : Int32)).toNatClampNeg) by decide) hh)) ?_
  obtain ⟨f44, e, h44⟩ : ∃ F2, ax_sI (83, f43, g37) 64 3 (-1 : Int32) = (83, F2, g37) ∧ iH 83 F2 iL_220 := i_w h43 (by decide)
  rw [e]; clear e
  refine ax_cutE (pc' := 194) (la := [some (.ref 63), some (.int (4 : Int32))]) [some (.ref 63), some (.int (4 : Int32))] (st' := [.int (4 : Int32), .ref 64]) (σ' := (83, f44, g37)) 10 (And.intro rfl (And.intro rfl (trivial))) (fun _ _ hh => (And.intro (fun q => absurd q (show ¬ ((12 : Int32) ≤ (4 : Int32) : Prop) by decide)) (fun _ => (And.intro (i_r h44 (by decide) (by decide +kernel)) hh)))) ?_
  refine ax_cutE (pc' := 196) (la := [some (.ref 63), some (.int (4 : Int32))]) [some (.ref 63), some (.int (4 : Int32))] (st' := []) (σ' := (ax_sI (83, f44, g37) 64 4 (-1 : Int32))) 2 (And.intro rfl (And.intro rfl (trivial))) (fun _ _ hh => (And.intro (show ¬ ((4 : Int32) < 0 ∨ 291 ≤ ((4 : Int32)).toNatClampNeg) by decide) hh)) ?_
  obtain ⟨f45, e, h45⟩ : ∃ F2, ax_sI (83, f44, g37) 64 4 (-1 : Int32) = (83, F2, g37) ∧ iH 83 F2 iL_221 := i_w h44 (by decide)
  rw [e]; clear e
  refine ax_cutE (pc' := 194) (la := [some (.ref 63), some (.int (5 : Int32))]) [some (.ref 63), some (.int (5 : Int32))] (st' := [.int (5 : Int32), .ref 64]) (σ' := (83, f45, g37)) 10 (And.intro rfl (And.intro rfl (trivial))) (fun _ _ hh => (And.intro (fun q => absurd q (show ¬ ((12 : Int32) ≤ (5 : Int32) : Prop) by decide)) (fun _ => (And.intro (i_r h45 (by decide) (by decide +kernel)) hh)))) ?_
  refine ax_cutE (pc' := 196) (la := [some (.ref 63), some (.int (5 : Int32))]) [some (.ref 63), some (.int (5 : Int32))] (st' := []) (σ' := (ax_sI (83, f45, g37) 64 5 (-1 : Int32))) 2 (And.intro rfl (And.intro rfl (trivial))) (fun _ _ hh => (And.intro (show ¬ ((5 : Int32) < 0 ∨ 291 ≤ ((5 : Int32)).toNatClampNeg) by decide) hh)) ?_
  obtain ⟨f46, e, h46⟩ : ∃ F2, ax_sI (83, f45, g37) 64 5 (-1 : Int32) = (83, F2, g37) ∧ iH 83 F2 iL_222 := i_w h45 (by decide)
  rw [e]; clear e
  refine ax_cutE (pc' := 194) (la := [some (.ref 63), some (.int (6 : Int32))]) [some (.ref 63), some (.int (6 : Int32))] (st' := [.int (6 : Int32), .ref 64]) (σ' := (83, f46, g37)) 10 (And.intro rfl (And.intro rfl (trivial))) (fun _ _ hh => (And.intro (fun q => absurd q (show ¬ ((12 : Int32) ≤ (6 : Int32) : Prop) by decide)) (fun _ => (And.intro (i_r h46 (by decide) (by decide +kernel)) hh)))) ?_
  refine ax_cutE (pc' := 196) (la := [some (.ref 63), some (.int (6 : Int32))]) [some (.ref 63), some (.int (6 : Int32))] (st' := []) (σ' := (ax_sI (83, f46, g37) 64 6 (-1 : Int32))) 2 (And.intro rfl (And.intro rfl (trivial))) (fun _ _ hh => (And.intro (show ¬ ((6 : Int32) < 0 ∨ 291 ≤ ((6 : Int32)).toNatClampNeg) by decide) hh)) ?_
  obtain ⟨f47, e, h47⟩ : ∃ F2, ax_sI (83, f46, g37) 64 6 (-1 : Int32) = (83, F2, g37) ∧ iH 83 F2 iL_223 := i_w h46 (by decide)
  rw [e]; clear e
  refine ax_cutE (pc' := 194) (la := [some (.ref 63), some (.int (7 : Int32))]) [some (.ref 63), some (.int (7 : Int32))] (st' := [.int (7 : Int32), .ref 64]) (σ' := (83, f47, g37)) 10 (And.intro rfl (And.intro rfl (trivial))) (fun _ _ hh => (And.intro (fun q => absurd q (show ¬ ((12 : Int32) ≤ (7 : Int32) : Prop) by decide)) (fun _ => (And.intro (i_r h47 (by decide) (by decide +kernel)) hh)))) ?_
  refine ax_cutE (pc' := 196) (la := [some (.ref 63), some (.int (7 : Int32))]) [some (.ref 63), some (.int (7 : Int32))] (st' := []) (σ' := (ax_sI (83, f47, g37) 64 7 (-1 : Int32))) 2 (And.intro rfl (And.intro rfl (trivial))) (fun _ _ hh => (And.intro (show ¬ ((7 : Int32) < 0 ∨ 291 ≤ ((7 : Int32)).toNatClampNeg) by decide) hh)) ?_
  obtain ⟨f48, e, h48⟩ : ∃ F2, ax_sI (83, f47, g37) 64 7 (-1 : Int32) = (83, F2, g37) ∧ iH 83 F2 iL_224 := i_w h47 (by decide)
  rw [e]; clear e
  refine ax_cutE (pc' := 194) (la := [some (.ref 63), some (.int (8 : Int32))]) [some (.ref 63), some (.int (8 : Int32))] (st' := [.int (8 : Int32), .ref 64]) (σ' := (83, f48, g37)) 10 (And.intro rfl (And.intro rfl (trivial))) (fun _ _ hh => (And.intro (fun q => absurd q (show ¬ ((12 : Int32) ≤ (8 : Int32) : Prop) by decide)) (fun _ => (And.intro (i_r h48 (by decide) (by decide +kernel)) hh)))) ?_
  refine ax_cutE (pc' := 196) (la := [some (.ref 63), some (.int (8 : Int32))]) [some (.ref 63), some (.int (8 : Int32))] (st' := []) (σ' := (ax_sI (83, f48, g37) 64 8 (-1 : Int32))) 2 (And.intro rfl (And.intro rfl (trivial))) (fun _ _ hh => (And.intro (show ¬ ((8 : Int32) < 0 ∨ 291 ≤ ((8 : Int32)).toNatClampNeg) by decide) hh)) ?_
  obtain ⟨f49, e, h49⟩ : ∃ F2, ax_sI (83, f48, g37) 64 8 (-1 : Int32) = (83, F2, g37) ∧ iH 83 F2 iL_225 := i_w h48 (by decide)
  rw [e]; clear e
  refine ax_cutE (pc' := 194) (la := [some (.ref 63), some (.int (9 : Int32))]) [some (.ref 63), some (.int (9 : Int32))] (st' := [.int (9 : Int32), .ref 64]) (σ' := (83, f49, g37)) 10 (And.intro rfl (And.intro rfl (trivial))) (fun _ _ hh => (And.intro (fun q => absurd q (show ¬ ((12 : Int32) ≤ (9 : Int32) : Prop) by decide)) (fun _ => (And.intro (i_r h49 (by decide) (by decide +kernel)) hh)))) ?_
  refine ax_cutE (pc' := 196) (la := [some (.ref 63), some (.int (9 : Int32))]) [some (.ref 63), some (.int (9 : Int32))] (st' := []) (σ' := (ax_sI (83, f49, g37) 64 9 (-1 : Int32))) 2 (And.intro rfl (And.intro rfl (trivial))) (fun _ _ hh => (And.intro (show ¬ ((9 : Int32) < 0 ∨ 291 ≤ ((9 : Int32)).toNatClampNeg) by decide) hh)) ?_
  obtain ⟨f50, e, h50⟩ : ∃ F2, ax_sI (83, f49, g37) 64 9 (-1 : Int32) = (83, F2, g37) ∧ iH 83 F2 iL_226 := i_w h49 (by decide)
  rw [e]; clear e
  refine ax_cutE (pc' := 194) (la := [some (.ref 63), some (.int (10 : Int32))]) [some (.ref 63), some (.int (10 : Int32))] (st' := [.int (10 : Int32), .ref 64]) (σ' := (83, f50, g37)) 10 (And.intro rfl (And.intro rfl (trivial))) (fun _ _ hh => (And.intro (fun q => absurd q (show ¬ ((12 : Int32) ≤ (10 : Int32) : Prop) by decide)) (fun _ => (And.intro (i_r h50 (by decide) (by decide +kernel)) hh)))) ?_
  refine ax_cutE (pc' := 196) (la := [some (.ref 63), some (.int (10 : Int32))]) [some (.ref 63), some (.int (10 : Int32))] (st' := []) (σ' := (ax_sI (83, f50, g37) 64 10 (-1 : Int32))) 2 (And.intro rfl (And.intro rfl (trivial))) (fun _ _ hh => (And.intro (show ¬ ((10 : Int32) < 0 ∨ 291 ≤ ((10 : Int32)).toNatClampNeg) by decide) hh)) ?_
  obtain ⟨f51, e, h51⟩ : ∃ F2, ax_sI (83, f50, g37) 64 10 (-1 : Int32) = (83, F2, g37) ∧ iH 83 F2 iL_227 := i_w h50 (by decide)
  rw [e]; clear e
  refine ax_cutE (pc' := 194) (la := [some (.ref 63), some (.int (11 : Int32))]) [some (.ref 63), some (.int (11 : Int32))] (st' := [.int (11 : Int32), .ref 64]) (σ' := (83, f51, g37)) 10 (And.intro rfl (And.intro rfl (trivial))) (fun _ _ hh => (And.intro (fun q => absurd q (show ¬ ((12 : Int32) ≤ (11 : Int32) : Prop) by decide)) (fun _ => (And.intro (i_r h51 (by decide) (by decide +kernel)) hh)))) ?_
  refine ax_cutE (pc' := 196) (la := [some (.ref 63), some (.int (11 : Int32))]) [some (.ref 63), some (.int (11 : Int32))] (st' := []) (σ' := (ax_sI (83, f51, g37) 64 11 (-1 : Int32))) 2 (And.intro rfl (And.intro rfl (trivial))) (fun _ _ hh => (And.intro (show ¬ ((11 : Int32) < 0 ∨ 291 ≤ ((11 : Int32)).toNatClampNeg) by decide) hh)) ?_
  obtain ⟨f52, e, h52⟩ : ∃ F2, ax_sI (83, f51, g37) 64 11 (-1 : Int32) = (83, F2, g37) ∧ iH 83 F2 iL_228 := i_w h51 (by decide)
  rw [e]; clear e
  refine ax_cutE (pc' := 210) (la := [some (.ref 63), some (.int (0 : Int32))]) [some (.ref 63), some (.int (0 : Int32))] (st' := []) (σ' := (83, f52, g37)) 10 (And.intro rfl (And.intro rfl (trivial))) (fun _ _ hh => (And.intro (fun _ => (And.intro (fun q => absurd q (show ¬ ((16 : Int32) ≤ (0 : Int32) : Prop) by decide)) (fun _ => hh))) (fun q => absurd (show ((12 : Int32) ≤ (12 : Int32) : Prop) by decide) q))) ?_
  refine ax_cutE (pc' := 220) (la := [some (.ref 63), some (.int (0 : Int32))]) [some (.ref 63), some (.int (0 : Int32))] (st' := []) (σ' := (ax_sI (83, f52, g37) 64 92 (-1 : Int32))) 7 (And.intro rfl (And.intro rfl (trivial))) (fun _ _ hh => (And.intro (i_r h52 (by decide) (by decide +kernel)) (And.intro (show ¬ ((92 : Int32) < 0 ∨ 291 ≤ ((92 : Int32)).toNatClampNeg) by decide) hh))) ?_
  obtain ⟨f53, e, h53⟩ : ∃ F2, ax_sI (83, f52, g37) 64 92 (-1 : Int32) = (83, F2, g37) ∧ iH 83 F2 iL_229 := i_w h52 (by decide)
  rw [e]; clear e
  refine ax_cutE (pc' := 218) (la := [some (.ref 63), some (.int (1 : Int32))]) [some (.ref 63), some (.int (1 : Int32))] (st' := [.int (93 : Int32), .ref 64]) (σ' := (83, f53, g37)) 10 (And.intro rfl (And.intro rfl (trivial))) (fun _ _ hh => (And.intro (fun q => absurd q (show ¬ ((16 : Int32) ≤ (1 : Int32) : Prop) by decide)) (fun _ => (And.intro (i_r h53 (by decide) (by decide +kernel)) hh)))) ?_
  refine ax_cutE (pc' := 220) (la := [some (.ref 63), some (.int (1 : Int32))]) [some (.ref 63), some (.int (1 : Int32))] (st' := []) (σ' := (ax_sI (83, f53, g37) 64 93 (-1 : Int32))) 2 (And.intro rfl (And.intro rfl (trivial))) (fun _ _ hh => (And.intro (show ¬ ((93 : Int32) < 0 ∨ 291 ≤ ((93 : Int32)).toNatClampNeg) by decide) hh)) ?_
  obtain ⟨f54, e, h54⟩ : ∃ F2, ax_sI (83, f53, g37) 64 93 (-1 : Int32) = (83, F2, g37) ∧ iH 83 F2 iL_230 := i_w h53 (by decide)
  rw [e]; clear e
  refine ax_cutE (pc' := 218) (la := [some (.ref 63), some (.int (2 : Int32))]) [some (.ref 63), some (.int (2 : Int32))] (st' := [.int (94 : Int32), .ref 64]) (σ' := (83, f54, g37)) 10 (And.intro rfl (And.intro rfl (trivial))) (fun _ _ hh => (And.intro (fun q => absurd q (show ¬ ((16 : Int32) ≤ (2 : Int32) : Prop) by decide)) (fun _ => (And.intro (i_r h54 (by decide) (by decide +kernel)) hh)))) ?_
  refine ax_cutE (pc' := 220) (la := [some (.ref 63), some (.int (2 : Int32))]) [some (.ref 63), some (.int (2 : Int32))] (st' := []) (σ' := (ax_sI (83, f54, g37) 64 94 (-1 : Int32))) 2 (And.intro rfl (And.intro rfl (trivial))) (fun _ _ hh => (And.intro (show ¬ ((94 : Int32) < 0 ∨ 291 ≤ ((94 : Int32)).toNatClampNeg) by decide) hh)) ?_
  obtain ⟨f55, e, h55⟩ : ∃ F2, ax_sI (83, f54, g37) 64 94 (-1 : Int32) = (83, F2, g37) ∧ iH 83 F2 iL_231 := i_w h54 (by decide)
  rw [e]; clear e
  refine ax_cutE (pc' := 218) (la := [some (.ref 63), some (.int (3 : Int32))]) [some (.ref 63), some (.int (3 : Int32))] (st' := [.int (95 : Int32), .ref 64]) (σ' := (83, f55, g37)) 10 (And.intro rfl (And.intro rfl (trivial))) (fun _ _ hh => (And.intro (fun q => absurd q (show ¬ ((16 : Int32) ≤ (3 : Int32) : Prop) by decide)) (fun _ => (And.intro (i_r h55 (by decide) (by decide +kernel)) hh)))) ?_
  refine ax_cutE (pc' := 220) (la := [some (.ref 63), some (.int (3 : Int32))]) [some (.ref 63), some (.int (3 : Int32))] (st' := []) (σ' := (ax_sI (83, f55, g37) 64 95 (-1 : Int32))) 2 (And.intro rfl (And.intro rfl (trivial))) (fun _ _ hh => (And.intro (show ¬ ((95 : Int32) < 0 ∨ 291 ≤ ((95 : Int32)).toNatClampNeg) by decide) hh)) ?_
  obtain ⟨f56, e, h56⟩ : ∃ F2, ax_sI (83, f55, g37) 64 95 (-1 : Int32) = (83, F2, g37) ∧ iH 83 F2 iL_232 := i_w h55 (by decide)
  rw [e]; clear e
  refine ax_cutE (pc' := 218) (la := [some (.ref 63), some (.int (4 : Int32))]) [some (.ref 63), some (.int (4 : Int32))] (st' := [.int (96 : Int32), .ref 64]) (σ' := (83, f56, g37)) 10 (And.intro rfl (And.intro rfl (trivial))) (fun _ _ hh => (And.intro (fun q => absurd q (show ¬ ((16 : Int32) ≤ (4 : Int32) : Prop) by decide)) (fun _ => (And.intro (i_r h56 (by decide) (by decide +kernel)) hh)))) ?_
  refine ax_cutE (pc' := 220) (la := [some (.ref 63), some (.int (4 : Int32))]) [some (.ref 63), some (.int (4 : Int32))] (st' := []) (σ' := (ax_sI (83, f56, g37) 64 96 (-1 : Int32))) 2 (And.intro rfl (And.intro rfl (trivial))) (fun _ _ hh => (And.intro (show ¬ ((96 : Int32) < 0 ∨ 291 ≤ ((96 : Int32)).toNatClampNeg) by decide) hh)) ?_
  obtain ⟨f57, e, h57⟩ : ∃ F2, ax_sI (83, f56, g37) 64 96 (-1 : Int32) = (83, F2, g37) ∧ iH 83 F2 iL_233 := i_w h56 (by decide)
  rw [e]; clear e
  refine ax_cutE (pc' := 218) (la := [some (.ref 63), some (.int (5 : Int32))]) [some (.ref 63), some (.int (5 : Int32))] (st' := [.int (97 : Int32), .ref 64]) (σ' := (83, f57, g37)) 10 (And.intro rfl (And.intro rfl (trivial))) (fun _ _ hh => (And.intro (fun q => absurd q (show ¬ ((16 : Int32) ≤ (5 : Int32) : Prop) by decide)) (fun _ => (And.intro (i_r h57 (by decide) (by decide +kernel)) hh)))) ?_
  refine ax_cutE (pc' := 220) (la := [some (.ref 63), some (.int (5 : Int32))]) [some (.ref 63), some (.int (5 : Int32))] (st' := []) (σ' := (ax_sI (83, f57, g37) 64 97 (-1 : Int32))) 2 (And.intro rfl (And.intro rfl (trivial))) (fun _ _ hh => (And.intro (show ¬ ((97 : Int32) < 0 ∨ 291 ≤ ((97 : Int32)).toNatClampNeg) by decide) hh)) ?_
  obtain ⟨f58, e, h58⟩ : ∃ F2, ax_sI (83, f57, g37) 64 97 (-1 : Int32) = (83, F2, g37) ∧ iH 83 F2 iL_234 := i_w h57 (by decide)
  rw [e]; clear e
  refine ax_cutE (pc' := 218) (la := [some (.ref 63), some (.int (6 : Int32))]) [some (.ref 63), some (.int (6 : Int32))] (st' := [.int (98 : Int32), .ref 64]) (σ' := (83, f58, g37)) 10 (And.intro rfl (And.intro rfl (trivial))) (fun _ _ hh => (And.intro (fun q => absurd q (show ¬ ((16 : Int32) ≤ (6 : Int32) : Prop) by decide)) (fun _ => (And.intro (i_r h58 (by decide) (by decide +kernel)) hh)))) ?_
  refine ax_cutE (pc' := 220) (la := [some (.ref 63), some (.int (6 : Int32))]) [some (.ref 63), some (.int (6 : Int32))] (st' := []) (σ' := (ax_sI (83, f58, g37) 64 98 (-1 : Int32))) 2 (And.intro rfl (And.intro rfl (trivial))) (fun _ _ hh => (And.intro (show ¬ ((98 : Int32) < 0 ∨ 291 ≤ ((98 : Int32)).toNatClampNeg) by decide) hh)) ?_
  obtain ⟨f59, e, h59⟩ : ∃ F2, ax_sI (83, f58, g37) 64 98 (-1 : Int32) = (83, F2, g37) ∧ iH 83 F2 iL_235 := i_w h58 (by decide)
  rw [e]; clear e
  refine ax_cutE (pc' := 218) (la := [some (.ref 63), some (.int (7 : Int32))]) [some (.ref 63), some (.int (7 : Int32))] (st' := [.int (99 : Int32), .ref 64]) (σ' := (83, f59, g37)) 10 (And.intro rfl (And.intro rfl (trivial))) (fun _ _ hh => (And.intro (fun q => absurd q (show ¬ ((16 : Int32) ≤ (7 : Int32) : Prop) by decide)) (fun _ => (And.intro (i_r h59 (by decide) (by decide +kernel)) hh)))) ?_
  refine ax_cutE (pc' := 220) (la := [some (.ref 63), some (.int (7 : Int32))]) [some (.ref 63), some (.int (7 : Int32))] (st' := []) (σ' := (ax_sI (83, f59, g37) 64 99 (-1 : Int32))) 2 (And.intro rfl (And.intro rfl (trivial))) (fun _ _ hh => (And.intro (show ¬ ((99 : Int32) < 0 ∨ 291 ≤ ((99 : Int32)).toNatClampNeg) by decide) hh)) ?_
  obtain ⟨f60, e, h60⟩ : ∃ F2, ax_sI (83, f59, g37) 64 99 (-1 : Int32) = (83, F2, g37) ∧ iH 83 F2 iL_236 := i_w h59 (by decide)
  rw [e]; clear e
  refine ax_cutE (pc' := 218) (la := [some (.ref 63), some (.int (8 : Int32))]) [some (.ref 63), some (.int (8 : Int32))] (st' := [.int (100 : Int32), .ref 64]) (σ' := (83, f60, g37)) 10 (And.intro rfl (And.intro rfl (trivial))) (fun _ _ hh => (And.intro (fun q => absurd q (show ¬ ((16 : Int32) ≤ (8 : Int32) : Prop) by decide)) (fun _ => (And.intro (i_r h60 (by decide) (by decide +kernel)) hh)))) ?_
  refine ax_cutE (pc' := 220) (la := [some (.ref 63), some (.int (8 : Int32))]) [some (.ref 63), some (.int (8 : Int32))] (st' := []) (σ' := (ax_sI (83, f60, g37) 64 100 (-1 : Int32))) 2 (And.intro rfl (And.intro rfl (trivial))) (fun _ _ hh => (And.intro (show ¬ ((100 : Int32) < 0 ∨ 291 ≤ ((100 : Int32)).toNatClampNeg) by decide) hh)) ?_
  obtain ⟨f61, e, h61⟩ : ∃ F2, ax_sI (83, f60, g37) 64 100 (-1 : Int32) = (83, F2, g37) ∧ iH 83 F2 iL_237 := i_w h60 (by decide)
  rw [e]; clear e
  refine ax_cutE (pc' := 218) (la := [some (.ref 63), some (.int (9 : Int32))]) [some (.ref 63), some (.int (9 : Int32))] (st' := [.int (101 : Int32), .ref 64]) (σ' := (83, f61, g37)) 10 (And.intro rfl (And.intro rfl (trivial))) (fun _ _ hh => (And.intro (fun q => absurd q (show ¬ ((16 : Int32) ≤ (9 : Int32) : Prop) by decide)) (fun _ => (And.intro (i_r h61 (by decide) (by decide +kernel)) hh)))) ?_
  refine ax_cutE (pc' := 220) (la := [some (.ref 63), some (.int (9 : Int32))]) [some (.ref 63), some (.int (9 : Int32))] (st' := []) (σ' := (ax_sI (83, f61, g37) 64 101 (-1 : Int32))) 2 (And.intro rfl (And.intro rfl (trivial))) (fun _ _ hh => (And.intro (show ¬ ((101 : Int32) < 0 ∨ 291 ≤ ((101 : Int32)).toNatClampNeg) by decide) hh)) ?_
  obtain ⟨f62, e, h62⟩ : ∃ F2, ax_sI (83, f61, g37) 64 101 (-1 : Int32) = (83, F2, g37) ∧ iH 83 F2 iL_238 := i_w h61 (by decide)
  rw [e]; clear e
  refine ax_cutE (pc' := 218) (la := [some (.ref 63), some (.int (10 : Int32))]) [some (.ref 63), some (.int (10 : Int32))] (st' := [.int (102 : Int32), .ref 64]) (σ' := (83, f62, g37)) 10 (And.intro rfl (And.intro rfl (trivial))) (fun _ _ hh => (And.intro (fun q => absurd q (show ¬ ((16 : Int32) ≤ (10 : Int32) : Prop) by decide)) (fun _ => (And.intro (i_r h62 (by decide) (by decide +kernel)) hh)))) ?_
  refine ax_cutE (pc' := 220) (la := [some (.ref 63), some (.int (10 : Int32))]) [some (.ref 63), some (.int (10 : Int32))] (st' := []) (σ' := (ax_sI (83, f62, g37) 64 102 (-1 : Int32))) 2 (And.intro rfl (And.intro rfl (trivial))) (fun _ _ hh => (And.intro (show ¬ ((102 : Int32) < 0 ∨ 291 ≤ ((102 : Int32)).toNatClampNeg) by decide) hh)) ?_
  obtain ⟨f63, e, h63⟩ : ∃ F2, ax_sI (83, f62, g37) 64 102 (-1 : Int32) = (83, F2, g37) ∧ iH 83 F2 iL_239 := i_w h62 (by decide)
  rw [e]; clear e
  refine ax_cutE (pc' := 218) (la := [some (.ref 63), some (.int (11 : Int32))]) [some (.ref 63), some (.int (11 : Int32))] (st' := [.int (103 : Int32), .ref 64]) (σ' := (83, f63, g37)) 10 (And.intro rfl (And.intro rfl (trivial))) (fun _ _ hh => (And.intro (fun q => absurd q (show ¬ ((16 : Int32) ≤ (11 : Int32) : Prop) by decide)) (fun _ => (And.intro (i_r h63 (by decide) (by decide +kernel)) hh)))) ?_
  refine ax_cutE (pc' := 220) (la := [some (.ref 63), some (.int (11 : Int32))]) [some (.ref 63), some (.int (11 : Int32))] (st' := []) (σ' := (ax_sI (83, f63, g37) 64 103 (-1 : Int32))) 2 (And.intro rfl (And.intro rfl (trivial))) (fun _ _ hh => (And.intro (show ¬ ((103 : Int32) < 0 ∨ 291 ≤ ((103 : Int32)).toNatClampNeg) by decide) hh)) ?_
  obtain ⟨f64, e, h64⟩ : ∃ F2, ax_sI (83, f63, g37) 64 103 (-1 : Int32) = (83, F2, g37) ∧ iH 83 F2 iL_240 := i_w h63 (by decide)
  rw [e]; clear e
  refine ax_cutE (pc' := 218) (la := [some (.ref 63), some (.int (12 : Int32))]) [some (.ref 63), some (.int (12 : Int32))] (st' := [.int (104 : Int32), .ref 64]) (σ' := (83, f64, g37)) 10 (And.intro rfl (And.intro rfl (trivial))) (fun _ _ hh => (And.intro (fun q => absurd q (show ¬ ((16 : Int32) ≤ (12 : Int32) : Prop) by decide)) (fun _ => (And.intro (i_r h64 (by decide) (by decide +kernel)) hh)))) ?_
  refine ax_cutE (pc' := 220) (la := [some (.ref 63), some (.int (12 : Int32))]) [some (.ref 63), some (.int (12 : Int32))] (st' := []) (σ' := (ax_sI (83, f64, g37) 64 104 (-1 : Int32))) 2 (And.intro rfl (And.intro rfl (trivial))) (fun _ _ hh => (And.intro (show ¬ ((104 : Int32) < 0 ∨ 291 ≤ ((104 : Int32)).toNatClampNeg) by decide) hh)) ?_
  obtain ⟨f65, e, h65⟩ : ∃ F2, ax_sI (83, f64, g37) 64 104 (-1 : Int32) = (83, F2, g37) ∧ iH 83 F2 iL_241 := i_w h64 (by decide)
  rw [e]; clear e
  refine ax_cutE (pc' := 218) (la := [some (.ref 63), some (.int (13 : Int32))]) [some (.ref 63), some (.int (13 : Int32))] (st' := [.int (105 : Int32), .ref 64]) (σ' := (83, f65, g37)) 10 (And.intro rfl (And.intro rfl (trivial))) (fun _ _ hh => (And.intro (fun q => absurd q (show ¬ ((16 : Int32) ≤ (13 : Int32) : Prop) by decide)) (fun _ => (And.intro (i_r h65 (by decide) (by decide +kernel)) hh)))) ?_
  refine ax_cutE (pc' := 220) (la := [some (.ref 63), some (.int (13 : Int32))]) [some (.ref 63), some (.int (13 : Int32))] (st' := []) (σ' := (ax_sI (83, f65, g37) 64 105 (-1 : Int32))) 2 (And.intro rfl (And.intro rfl (trivial))) (fun _ _ hh => (And.intro (show ¬ ((105 : Int32) < 0 ∨ 291 ≤ ((105 : Int32)).toNatClampNeg) by decide) hh)) ?_
  obtain ⟨f66, e, h66⟩ : ∃ F2, ax_sI (83, f65, g37) 64 105 (-1 : Int32) = (83, F2, g37) ∧ iH 83 F2 iL_242 := i_w h65 (by decide)
  rw [e]; clear e
  refine ax_cutE (pc' := 218) (la := [some (.ref 63), some (.int (14 : Int32))]) [some (.ref 63), some (.int (14 : Int32))] (st' := [.int (106 : Int32), .ref 64]) (σ' := (83, f66, g37)) 10 (And.intro rfl (And.intro rfl (trivial))) (fun _ _ hh => (And.intro (fun q => absurd q (show ¬ ((16 : Int32) ≤ (14 : Int32) : Prop) by decide)) (fun _ => (And.intro (i_r h66 (by decide) (by decide +kernel)) hh)))) ?_
  refine ax_cutE (pc' := 220) (la := [some (.ref 63), some (.int (14 : Int32))]) [some (.ref 63), some (.int (14 : Int32))] (st' := []) (σ' := (ax_sI (83, f66, g37) 64 106 (-1 : Int32))) 2 (And.intro rfl (And.intro rfl (trivial))) (fun _ _ hh => (And.intro (show ¬ ((106 : Int32) < 0 ∨ 291 ≤ ((106 : Int32)).toNatClampNeg) by decide) hh)) ?_
  obtain ⟨f67, e, h67⟩ : ∃ F2, ax_sI (83, f66, g37) 64 106 (-1 : Int32) = (83, F2, g37) ∧ iH 83 F2 iL_243 := i_w h66 (by decide)
  rw [e]; clear e
  refine ax_cutE (pc' := 218) (la := [some (.ref 63), some (.int (15 : Int32))]) [some (.ref 63), some (.int (15 : Int32))] (st' := [.int (107 : Int32), .ref 64]) (σ' := (83, f67, g37)) 10 (And.intro rfl (And.intro rfl (trivial))) (fun _ _ hh => (And.intro (fun q => absurd q (show ¬ ((16 : Int32) ≤ (15 : Int32) : Prop) by decide)) (fun _ => (And.intro (i_r h67 (by decide) (by decide +kernel)) hh)))) ?_
  refine ax_cutE (pc' := 220) (la := [some (.ref 63), some (.int (15 : Int32))]) [some (.ref 63), some (.int (15 : Int32))] (st' := []) (σ' := (ax_sI (83, f67, g37) 64 107 (-1 : Int32))) 2 (And.intro rfl (And.intro rfl (trivial))) (fun _ _ hh => (And.intro (show ¬ ((107 : Int32) < 0 ∨ 291 ≤ ((107 : Int32)).toNatClampNeg) by decide) hh)) ?_
  obtain ⟨f68, e, h68⟩ : ∃ F2, ax_sI (83, f67, g37) 64 107 (-1 : Int32) = (83, F2, g37) ∧ iH 83 F2 iL_244 := i_w h67 (by decide)
  rw [e]; clear e
  exact ⟨f68, g37, ax_endF 6 (And.intro (fun _ => rfl) (fun q => absurd (show ((16 : Int32) ≤ (16 : Int32) : Prop) by decide) q)), h68⟩
