section
variable {p : Program} {l : Launch} {e : Env} {R : Room} {s : State} {m : MethodId} {args : Array Value} {below : List Frame} {meth : Method} {c : Code} {H : Heap} {locs : List Loc} {Q : State → Prop}
variable {D : va_G} {cA : Nat → ClassId} {b sb : Nat} {ph : Bool} {X : ax_X} {E : ax_E} {M : ax_M} {d n0 nF nL : Nat}
variable {pc : Nat} {i : Instr} {len : Nat} {arr : Array Slot} {ls : ax_L} {st : List Value} {σ : ax_S} {K : Nat → ax_L → List Value → ax_S → Prop} {Rt : Option Value → ax_S → Prop}
theorem ax_after {o : ax_O} {rest : List Value} (hK : ax_Nx p l e R s m args below meth c Q D cA b sb ph n0 nL σ K) (h : K (pc + 3) ls (o.1.toList ++ rest) o.2) (hm : σ.1 ≤ o.2.1) (hn0 : n0 ≤ σ.1) (hl : ax_lh b sb arr ls) (hsz : arr.size = nL) : ∀ (H1 : Heap) (locs1 : List Loc), ax_wd D cA b ph o.2 H1 → va_S (ax_A b) s.heap H1 locs1 → W p l e R s m args below meth c H1 locs1 (σ.1 - n0 + (o.2.1 - σ.1)) (ax_sl σ.1 - ax_sl n0 + (ax_sl o.2.1 - ax_sl σ.1)) Q (F0 m (pc + 3) arr ((o.1.toList ++ rest).map (ax_cv b sb))) := by
  intro H1 locs1 hw1 hS1
  have hgo := hK _ _ _ _ _ _ _ h hm hw1 hS1 hl hsz
  have h1 := ax_sl_mono hn0
  have h2 := ax_sl_mono hm
  have e1 : o.2.1 - n0 = σ.1 - n0 + (o.2.1 - σ.1) := by omega
  have e2 : ax_sl o.2.1 - ax_sl n0 = ax_sl σ.1 - ax_sl n0 + (ax_sl o.2.1 - ax_sl σ.1) := by omega
  unfold ax_at at hgo
  rw [e1, e2] at hgo
  exact hgo
theorem ax_room {nF1 : Nat} (hRc : nF - n0 ≤ R.cells) (hRs : ax_sl nF - ax_sl n0 ≤ R.slots) (hm : σ.1 ≤ nF1) (hF : nF1 ≤ nF) (hn0 : n0 ≤ σ.1) : σ.1 - n0 + (nF1 - σ.1) ≤ R.cells ∧ ax_sl σ.1 - ax_sl n0 + (ax_sl nF1 - ax_sl σ.1) ≤ R.slots := by
  have h1 := ax_sl_mono hn0
  have h2 := ax_sl_mono hm
  have h3 := ax_sl_mono hF
  omega
theorem ax_take {n : Nat} (h : n ≤ st.length) : ((st.take n).reverse).length = n := by
  rw [List.length_reverse, List.length_take]
  omega
theorem ax_tkd (n : Nat) (st : List Value) : (st.take n).reverse.reverse ++ st.drop n = st := by
  rw [List.reverse_reverse, List.take_append_drop]
theorem ax_s_invokestatic {x : Nat} (hO : ax_On p l R s m args meth c D cA b sb ph X E M d n0 nF nL) (hi : M.2.2.2.2.2 pc = some (.invokestatic x, len)) (h : ax_ins ph X E M (.invokestatic x) pc ls st σ K Rt) (hsz : arr.size = nL) (hl : ax_lh b sb arr ls) (hw : ax_wd D cA b ph σ H) (hS : va_S (ax_A b) s.heap H locs) (hn0 : n0 ≤ σ.1) (hF : σ.1 ≤ nF) (hKF : ∀ pc ls st σ', K pc ls st σ' → σ'.1 ≤ nF) (hK : ax_Nx p l e R s m args below meth c Q D cA b sb ph n0 nL σ K) : ax_at p l e R s m args below meth c Q b sb n0 H locs pc arr st σ := by
  obtain ⟨hT, hMO, ⟨hx, hb, hml, hown, hts⟩, hKn, hnm, hX, hE, hEm, hfr, hlo, hRc, hRs⟩ := hO
  have hdec := ax_dec hMO hi (Nat.succ_ne_zero _)
  dsimp only [ax_ins] at h
  split at h
  case h_3 => exact h.elim
  case h_1 =>
    rename_i n z hca
    split at h
    case h_2 => exact h.elim
    case h_1 =>
    rename_i cn dp a sp a0 r
    split at h
    case h_2 => exact h.elim
    case h_1 =>
    rename_i n0' n1' hsh0 hsh1
    obtain ⟨h1, h2, h3, h4, h5, h6, h⟩ := ax_bif h
    simp only [Bool.and_eq_true] at h1
    obtain ⟨⟨h1, h7⟩, h8⟩ := h1
    have hsum : (r.map Value.category).sum ≤ 8 := Nat.le_of_ble_eq_true h8
    obtain ⟨hNa, -⟩ := hT.2.2.2.1 a 0 _ hsh1 (by decide)
    obtain ⟨hNb, -⟩ := hT.2.2.2.1 a0 0 _ hsh0 (by decide)
    have hab : a < σ.1 ∧ a0 < σ.1 := by
      cases ph with
      | true => rw [hw.2.1 rfl]; exact ⟨hNa, hNb⟩
      | false =>
        simp only [Bool.false_or, Bool.and_eq_true] at h7
        exact ⟨ax_blt h7.1, ax_blt h7.2⟩
    have ha2 : a < 1000 := Nat.lt_of_lt_of_le hNa (Nat.le_trans hT.2.2.2.2.1.1 (by decide))
    have hb2 : a0 < 1000 := Nat.lt_of_lt_of_le hNb (Nat.le_trans hT.2.2.2.2.1.1 (by decide))
    obtain ⟨t1, t2, t3, -, -⟩ := hT.2.2.2.2.2.2.2.2.2.2
    show W p l e R s m args below meth c H locs _ _ Q (F0 m pc arr ((Value.int cn :: Value.int dp :: Value.ref a :: Value.int sp :: Value.ref a0 :: r).map (ax_cv b sb)))
    rw [List.map_cons, List.map_cons, ax_cv_ofref ha2, List.map_cons, ax_cv_ofref hb2]
    refine ax_W_copy hx hb (hml.trans hsz.symm) hts hown hKn ((hT.2.2.2.2.2.2.2.2.2.1 _ _ _ _ _ _ hca).1 rfl) t1 t2 t3 hsh0 hsh1 hw hS hab.2 hab.1 h2 h3 h4 h5 h6 (by omega) (by rw [ax_cat_map]; omega) hdec (fun H1 locs1 hw1 hS1 => hK _ _ _ (ax_sA σ a (va_cpy (σ.2.1 a0) (σ.2.1 a) sp.toNatClampNeg dp.toNatClampNeg cn.toNatClampNeg)) _ _ _ h (Nat.le_refl σ.1) hw1 hS1 hl hsz)
  case h_2 =>
    rename_i n k z es hk9 hca
    cases hb10 : Nat.ble 10 k with
    | true =>
    rw [hb10] at h
    simp only [cond_true] at h
    have h10 := Nat.le_of_ble_eq_true hb10
    obtain ⟨-, -, -, -, -, m1, m2, m3, c1, c2, c3, c4, c5⟩ := hT.2.2.2.2.2.2.2.2.2.2
    have lk := m1 _ _ _ _ _ _ hca h10
    have hcl : σ.1 - n0 ≤ R.cells := by omega
    have hsl : ax_sl σ.1 - ax_sl n0 ≤ R.slots := by have := ax_sl_mono hF; omega
    split at h
    case h_2 => exact h.elim
    case h_1 =>
    rename_i st2 hm
    obtain ⟨hs, h⟩ := ax_bif h
    have hs := Nat.le_of_ble_eq_true hs
    unfold ax_math at hm
    split at hm
    · cases hm
      exact va_mmax hx hb (hml.trans hsz.symm) hown (hts _ lk) (hts _ (m2 10 (by decide) (by decide))) (hts _ m3) (hts _ c1) (by omega) (by rw [ax_cat_map]; simp only [List.drop_succ_cons, List.drop_zero] at hs; omega) hcl hsl hdec (hK _ _ _ _ _ _ _ h (Nat.le_refl _) hw hS hl hsz)
    · cases hm
      exact va_mmin hx hb (hml.trans hsz.symm) hown (hts _ lk) (hts _ (m2 11 (by decide) (by decide))) (hts _ m3) (hts _ c2) (by omega) (by rw [ax_cat_map]; simp only [List.drop_succ_cons, List.drop_zero] at hs; omega) hcl hsl hdec (hK _ _ _ _ _ _ _ h (Nat.le_refl _) hw hS hl hsz)
    · cases hm
      exact va_mabs hx hb (hml.trans hsz.symm) hown (hts _ lk) (hts _ (m2 12 (by decide) (by decide))) (hts _ m3) (hts _ c3) (by omega) (by rw [ax_cat_map]; simp only [List.drop_succ_cons, List.drop_zero] at hs; omega) hcl hsl hdec (hK _ _ _ _ _ _ _ h (Nat.le_refl _) hw hS hl hsz)
    · cases hm
      exact va_mmax_long hx hb (hml.trans hsz.symm) hown (hts _ lk) (hts _ (m2 13 (by decide) (by decide))) (hts _ m3) (hts _ c4) (by omega) (by rw [ax_cat_map]; simp only [List.drop_succ_cons, List.drop_zero] at hs; omega) hcl hsl hdec (hK _ _ _ _ _ _ _ h (Nat.le_refl _) hw hS hl hsz)
    · cases hm
      exact va_mmin_long hx hb (hml.trans hsz.symm) hown (hts _ lk) (hts _ (m2 14 (by decide) (by decide))) (hts _ m3) (hts _ c5) (by omega) (by rw [ax_cat_map]; simp only [List.drop_succ_cons, List.drop_zero] at hs; omega) hcl hsl hdec (hK _ _ _ _ _ _ _ h (Nat.le_refl _) hw hS hl hsz)
    · cases hm
    | false =>
    rw [hb10] at h
    simp only [cond_false] at h
    split at h
    case h_2 => exact h.elim
    case h_1 =>
    rename_i ν hpk
    obtain ⟨h1, o, hEo, h⟩ := ax_bif h
    simp only [Bool.and_eq_true, Bool.or_eq_true] at h1
    obtain ⟨⟨hk, hn⟩, hsum⟩ := h1
    have hn := Nat.le_of_ble_eq_true hn
    have hsum := Nat.le_of_ble_eq_true hsum
    have hk8 : k ≠ 8 := by
      rintro rfl
      rcases hk with (h9 | h9) | h9 <;> exact absurd h9 (by decide)
    have hk9 : k ≠ 9 := by
      rintro rfl
      rcases hk with (h9 | h9) | h9 <;> exact absurd h9 (by decide)
    obtain ⟨hNO, hck⟩ := (hT.2.2.2.2.2.2.2.2.2.1 _ _ _ _ _ _ hca).2.2 hk8 hk9 _ _ hpk
    have hM := hE _ _ _ _ hEo hNO
    have hm := hEm _ _ _ _ hEo
    have hrm := ax_room hRc hRs hm (hKF _ _ _ _ h) hn0
    have hgo := ax_after hK h hm hn0 hl hsz
    have S : CallFix p m c M.2.1 arr.size s args ax_tb (ax_on M.2.2.2.2.1) := ⟨hx, hb, hml.trans hsz.symm, hown, hts⟩
    show W p l e R s m args below meth c H locs _ _ Q (F0 m pc arr (st.map (ax_cv b sb)))
    rw [← ax_tkd n st]
    rcases hk with (h9 | h9) | h9
    · have h9 := Nat.eq_of_beq_eq_true h9
      subst h9
      obtain ⟨y, y1, y2, y3, y4, y5⟩ := hck
      exact ax_W_call (ax_c_static S hKn hw hM hNO y1 y2 y3 y4 y5 (ax_take hn) hsum hdec hfr hlo hrm) hS hgo
    · have h9 := Nat.eq_of_beq_eq_true h9
      subst h9
      obtain ⟨y, host, y1, y2, y3, y4, y5⟩ := hck
      exact ax_W_call (ax_c_nestS S hKn hw hM hNO y1 y2 y3 y4 y5 (ax_take hn) hsum hdec hfr hlo hrm) hS hgo
    · have h9 := Nat.eq_of_beq_eq_true h9
      subst h9
      obtain ⟨z, owner, y1, y2, y3, y4, y5, y6, y7⟩ := hck
      exact ax_W_call (ax_c_su S hKn hw hM hNO y1 y2 y3 y4 y5 y6 y7 (ax_take hn) hsum hdec hfr hlo hrm) hS hgo
theorem ax_s_invokespecial {x : Nat} (hO : ax_On p l R s m args meth c D cA b sb ph X E M d n0 nF nL) (hi : M.2.2.2.2.2 pc = some (.invokespecial x, len)) (h : ax_ins ph X E M (.invokespecial x) pc ls st σ K Rt) (hsz : arr.size = nL) (hl : ax_lh b sb arr ls) (hw : ax_wd D cA b ph σ H) (hS : va_S (ax_A b) s.heap H locs) (hn0 : n0 ≤ σ.1) (hF : σ.1 ≤ nF) (hKF : ∀ pc ls st σ', K pc ls st σ' → σ'.1 ≤ nF) (hK : ax_Nx p l e R s m args below meth c Q D cA b sb ph n0 nL σ K) : ax_at p l e R s m args below meth c Q b sb n0 H locs pc arr st σ := by
  obtain ⟨hT, hMO, ⟨hx, hb, hml, hown, hts⟩, hKn, hnm, hX, hE, hEm, hfr, hlo, hRc, hRs⟩ := hO
  have hdec := ax_dec hMO hi (Nat.succ_ne_zero _)
  dsimp only [ax_ins] at h
  split at h
  case h_3 => exact h.elim
  case h_1 =>
    rename_i z1 z2 hca
    split at h
    case h_2 => exact h.elim
    case h_1 =>
    rename_i a r
    obtain ⟨h1, h⟩ := ax_bif h
    have hsum := Nat.le_of_ble_eq_true h1
    obtain ⟨-, -, -, t4, t5, -⟩ := hT.2.2.2.2.2.2.2.2.2.2
    refine W.objInit hx hb hown (hts _ ((hT.2.2.2.2.2.2.2.2.2.1 _ _ _ _ _ _ hca).2.1 rfl)) (hts _ t4) (hts _ t5) (g := F0 m pc arr ((Value.ref a :: r).map (ax_cv b sb))) rfl (hsz.trans hml.symm) (rest := r.map (ax_cv b sb)) rfl hdec (by omega) (by rw [ax_cat_map]; show 2 * 0 + _ + 12 ≤ _; omega) ?_
    exact (hK _ _ _ _ _ _ _ h (Nat.le_refl _) hw hS hl hsz)
  case h_2 =>
    rename_i n k z es hk9 hca
    split at h
    case h_2 => exact h.elim
    case h_1 =>
    rename_i ν hpk
    split at h
    case h_2 => exact h.elim
    case h_1 =>
    rename_i a r hdr
    obtain ⟨h1, o, hEo, h⟩ := ax_bif h
    simp only [Bool.and_eq_true, Bool.or_eq_true] at h1
    obtain ⟨⟨ha1, hk⟩, hsum⟩ := h1
    have hsum := Nat.le_of_ble_eq_true hsum
    have hn : n ≤ st.length := by
      have h7 := congrArg List.length hdr
      rw [List.length_drop, List.length_cons] at h7
      omega
    have hk8 : k ≠ 8 := by
      rintro rfl
      rcases hk with h9 | h9 <;> exact absurd h9 (by decide)
    have hk9 : k ≠ 9 := by
      rintro rfl
      rcases hk with h9 | h9 <;> exact absurd h9 (by decide)
    obtain ⟨hNO, hck⟩ := (hT.2.2.2.2.2.2.2.2.2.1 _ _ _ _ _ _ hca).2.2 hk8 hk9 _ _ hpk
    have hM := hE _ _ _ _ hEo hNO
    have hm := hEm _ _ _ _ hEo
    have hrm := ax_room hRc hRs hm (hKF _ _ _ _ h) hn0
    have hgo := ax_after hK h hm hn0 hl hsz
    have S : CallFix p m c M.2.1 arr.size s args ax_tb (ax_on M.2.2.2.2.1) := ⟨hx, hb, hml.trans hsz.symm, hown, hts⟩
    have ha2 : a < 1000 := ax_blt ha1
    show W p l e R s m args below meth c H locs _ _ Q (F0 m pc arr (st.map (ax_cv b sb)))
    rw [← ax_tkd n st, hdr]
    rcases hk with h9 | h9
    · have h9 := Nat.eq_of_beq_eq_true h9
      subst h9
      obtain ⟨y, y1, y2, y3, y4, y5, y6, y7⟩ := hck
      exact ax_W_call (ax_c_init S hKn hw ha2 hM hNO y2 y1 y3 y4 y5 y6 y7 (ax_take hn) hsum hdec hfr hlo hrm) hS hgo
    · have h9 := Nat.eq_of_beq_eq_true h9
      subst h9
      obtain ⟨y, host, y1, y2, y3, y4, y5, y6, y7⟩ := hck
      exact ax_W_call (ax_c_nestI S hKn hw ha2 hM hNO y2 y1 y3 y4 y5 y6 y7 (ax_take hn) hsum hdec hfr hlo hrm) hS hgo
theorem ax_s_invokevirtual {x : Nat} (hO : ax_On p l R s m args meth c D cA b sb ph X E M d n0 nF nL) (hi : M.2.2.2.2.2 pc = some (.invokevirtual x, len)) (h : ax_ins ph X E M (.invokevirtual x) pc ls st σ K Rt) (hsz : arr.size = nL) (hl : ax_lh b sb arr ls) (hw : ax_wd D cA b ph σ H) (hS : va_S (ax_A b) s.heap H locs) (hn0 : n0 ≤ σ.1) (hF : σ.1 ≤ nF) (hKF : ∀ pc ls st σ', K pc ls st σ' → σ'.1 ≤ nF) (hK : ax_Nx p l e R s m args below meth c Q D cA b sb ph n0 nL σ K) : ax_at p l e R s m args below meth c Q b sb n0 H locs pc arr st σ := by
  obtain ⟨hT, hMO, ⟨hx, hb, hml, hown, hts⟩, hKn, hnm, hX, hE, hEm, hfr, hlo, hRc, hRs⟩ := hO
  have hdec := ax_dec hMO hi (Nat.succ_ne_zero _)
  dsimp only [ax_ins] at h
  split at h
  case h_2 => exact h.elim
  case h_1 =>
    rename_i n k z es hca
    split at h
    case h_2 => exact h.elim
    case h_1 =>
    rename_i a r hdr
    split at h
    case h_2 => exact h.elim
    case h_1 =>
    rename_i ci hsh
    split at h
    case h_2 => exact h.elim
    case h_1 =>
    rename_i ν hpk
    obtain ⟨h1, o, hEo, h⟩ := ax_bif h
    simp only [Bool.and_eq_true] at h1
    obtain ⟨⟨hp, hk⟩, hsum⟩ := h1
    simp only [Bool.or_eq_true] at hk
    have hsum := Nat.le_of_ble_eq_true hsum
    have hn : n ≤ st.length := by
      have h7 := congrArg List.length hdr
      rw [List.length_drop, List.length_cons] at h7
      omega
    have hk8 : k ≠ 8 := by
      rintro rfl
      rcases hk with (h9 | h9) | h9 <;> exact absurd h9 (by decide)
    have hk9 : k ≠ 9 := by
      rintro rfl
      rcases hk with (h9 | h9) | h9 <;> exact absurd h9 (by decide)
    obtain ⟨hNO, hck⟩ := (hT.2.2.2.2.2.2.2.2.2.1 _ _ _ _ _ _ hca).2.2 hk8 hk9 _ _ hpk
    have hM := hE _ _ _ _ hEo hNO
    have hm := hEm _ _ _ _ hEo
    have hrm := ax_room hRc hRs hm (hKF _ _ _ _ h) hn0
    have hgo := ax_after hK h hm hn0 hl hsz
    have S : CallFix p m c M.2.1 arr.size s args ax_tb (ax_on M.2.2.2.2.1) := ⟨hx, hb, hml.trans hsz.symm, hown, hts⟩
    obtain ⟨hN, -⟩ := hT.2.2.1 a ci hsh
    have ha : a < σ.1 := ax_lt_of hw hp hN
    have ha2 : a < 1000 := Nat.lt_of_lt_of_le hN (Nat.le_trans hT.2.2.2.2.1.1 (by decide))
    show W p l e R s m args below meth c H locs _ _ Q (F0 m pc arr (st.map (ax_cv b sb)))
    rw [← ax_tkd n st, hdr]
    rcases hk with (h9 | h9) | h9
    · have h9 := Nat.eq_of_beq_eq_true h9
      subst h9
      obtain ⟨y, C, T, N, y1, y2, y3, y4, y5, y6, y7, y8⟩ := hck
      exact ax_W_call (ax_c_virt S hKn hw hsh y2 ha ha2 hM hNO y1 y3 y4 y5 y6 y7 y8 (ax_take hn) hsum hdec hfr hlo hrm) hS hgo
    · have h9 := Nat.eq_of_beq_eq_true h9
      subst h9
      obtain ⟨z, y, owner, C, T, N, y1, y2, y3, y4, y5, y6, y7, y8, y9, y10⟩ := hck
      exact ax_W_call (ax_c_up S hKn hw hsh y2 ha ha2 hM hNO y1 (y3.imp id (hKn.2.2.2 _)) y4 y5 y6 y7 y8 y9 y10 (ax_take hn) hsum hdec hfr hlo hrm) hS hgo
    · have h9 := Nat.eq_of_beq_eq_true h9
      subst h9
      obtain ⟨z, y, owner, C, T, N, y1, y2, y3, y4, y5, y6, y7, y8, y9, y10⟩ := hck
      exact ax_W_call (ax_c_up S hKn hw hsh y2 ha ha2 hM hNO y1 (y3.imp id (hKn.2.2.2 _)) y4 y5 y6 y7 y8 y9 y10 (ax_take hn) hsum hdec hfr hlo hrm) hS hgo
theorem ax_step (hT3 : ∀ k t n, ax_sh k = .inr (t, n) → t < 3 ∨ t = 9) (hO : ax_On p l R s m args meth c D cA b sb ph X E M d n0 nF nL) (hi : M.2.2.2.2.2 pc = some (i, len)) (h : ax_ins ph X E M i pc ls st σ K Rt) (hsz : arr.size = nL) (hl : ax_lh b sb arr ls) (hw : ax_wd D cA b ph σ H) (hS : va_S (ax_A b) s.heap H locs) (hn0 : n0 ≤ σ.1) (hF : σ.1 ≤ nF) (hKF : ∀ pc ls st σ', K pc ls st σ' → σ'.1 ≤ nF) (hK : ax_Nx p l e R s m args below meth c Q D cA b sb ph n0 nL σ K) (hR1 : ∀ v, Rt (some (.int v)) σ → decode M.2.1 pc = .ok (.ireturn, 1) → (M.2.2.2.1 = some .int ∨ (M.2.2.2.1 = some .boolean ∧ (v = 0 ∨ v = 1))) → ax_at p l e R s m args below meth c Q b sb n0 H locs pc arr [.int v] σ) (hR2 : ∀ v, Rt (some (.long v)) σ → decode M.2.1 pc = .ok (.lreturn, 1) → M.2.2.2.1 = some .long → ax_at p l e R s m args below meth c Q b sb n0 H locs pc arr [.long v] σ) (hR3 : Rt none σ → decode M.2.1 pc = .ok (.return_, 1) → M.2.2.2.1 = none → ax_at p l e R s m args below meth c Q b sb n0 H locs pc arr [] σ) : ax_at p l e R s m args below meth c Q b sb n0 H locs pc arr st σ := by
  have hMO := hO.2.1
  cases i
  case iconst => exact ax_s_iconst hO hi h hsz hl hw hS hn0 hF hKF hK
  case bipush => exact ax_s_bipush hO hi h hsz hl hw hS hn0 hF hKF hK
  case sipush => exact ax_s_sipush hO hi h hsz hl hw hS hn0 hF hKF hK
  case lconst => exact ax_s_lconst hO hi h hsz hl hw hS hn0 hF hKF hK
  case ldc => exact ax_s_ldc hO hi h hsz hl hw hS hn0 hF hKF hK
  case ldc_w => exact ax_s_ldc_w hO hi h hsz hl hw hS hn0 hF hKF hK
  case ldc2_w => exact ax_s_ldc2_w hO hi h hsz hl hw hS hn0 hF hKF hK
  case iload_n => exact ax_s_iload_n hO hi h hsz hl hw hS hn0 hF hKF hK
  case lload_n => exact ax_s_lload_n hO hi h hsz hl hw hS hn0 hF hKF hK
  case aload_n => exact ax_s_aload_n hO hi h hsz hl hw hS hn0 hF hKF hK
  case iload => exact ax_s_iload hO hi h hsz hl hw hS hn0 hF hKF hK
  case lload => exact ax_s_lload hO hi h hsz hl hw hS hn0 hF hKF hK
  case aload => exact ax_s_aload hO hi h hsz hl hw hS hn0 hF hKF hK
  case istore_n => exact ax_s_istore_n hO hi h hsz hl hw hS hn0 hF hKF hK
  case istore => exact ax_s_istore hO hi h hsz hl hw hS hn0 hF hKF hK
  case astore_n => exact ax_s_astore_n hO hi h hsz hl hw hS hn0 hF hKF hK
  case astore => exact ax_s_astore hO hi h hsz hl hw hS hn0 hF hKF hK
  case lstore => exact ax_s_lstore hO hi h hsz hl hw hS hn0 hF hKF hK
  case iinc => exact ax_s_iinc hO hi h hsz hl hw hS hn0 hF hKF hK
  case iadd => exact ax_s_iadd hO hi h hsz hl hw hS hn0 hF hKF hK
  case isub => exact ax_s_isub hO hi h hsz hl hw hS hn0 hF hKF hK
  case imul => exact ax_s_imul hO hi h hsz hl hw hS hn0 hF hKF hK
  case iand => exact ax_s_iand hO hi h hsz hl hw hS hn0 hF hKF hK
  case ior => exact ax_s_ior hO hi h hsz hl hw hS hn0 hF hKF hK
  case ixor => exact ax_s_ixor hO hi h hsz hl hw hS hn0 hF hKF hK
  case ishl => exact ax_s_ishl hO hi h hsz hl hw hS hn0 hF hKF hK
  case ishr => exact ax_s_ishr hO hi h hsz hl hw hS hn0 hF hKF hK
  case lsub => exact ax_s_lsub hO hi h hsz hl hw hS hn0 hF hKF hK
  case ineg => exact ax_s_ineg hO hi h hsz hl hw hS hn0 hF hKF hK
  case iushr => exact ax_s_iushr hO hi h hsz hl hw hS hn0 hF hKF hK
  case i2l => exact ax_s_i2l hO hi h hsz hl hw hS hn0 hF hKF hK
  case l2i => exact ax_s_l2i hO hi h hsz hl hw hS hn0 hF hKF hK
  case i2b => exact ax_s_i2b hO hi h hsz hl hw hS hn0 hF hKF hK
  case idiv => exact ax_s_idiv hO hi h hsz hl hw hS hn0 hF hKF hK
  case irem => exact ax_s_irem hO hi h hsz hl hw hS hn0 hF hKF hK
  case lcmp => exact ax_s_lcmp hO hi h hsz hl hw hS hn0 hF hKF hK
  case dup => exact ax_s_dup hO hi h hsz hl hw hS hn0 hF hKF hK
  case dup2 => exact ax_s_dup2 hO hi h hsz hl hw hS hn0 hF hKF hK
  case pop => exact ax_s_pop hO hi h hsz hl hw hS hn0 hF hKF hK
  case goto => exact ax_s_goto hO hi h hsz hl hw hS hn0 hF hKF hK
  case ifCond => exact ax_s_ifCond hO hi h hsz hl hw hS hn0 hF hKF hK
  case if_icmp => exact ax_s_if_icmp hO hi h hsz hl hw hS hn0 hF hKF hK
  case tableswitch => exact ax_s_tableswitch hO hi h hsz hl hw hS hn0 hF hKF hK
  case lookupswitch => exact ax_s_lookupswitch hO hi h hsz hl hw hS hn0 hF hKF hK
  case getfield => exact ax_s_getfield hT3 hO hi h hsz hl hw hS hn0 hF hKF hK
  case putfield => exact ax_s_putfield hT3 hO hi h hsz hl hw hS hn0 hF hKF hK
  case arraylength => exact ax_s_arraylength hT3 hO hi h hsz hl hw hS hn0 hF hKF hK
  case iaload => exact ax_s_iaload hT3 hO hi h hsz hl hw hS hn0 hF hKF hK
  case baload => exact ax_s_baload hT3 hO hi h hsz hl hw hS hn0 hF hKF hK
  case laload => exact ax_s_laload hT3 hO hi h hsz hl hw hS hn0 hF hKF hK
  case iastore => exact ax_s_iastore hT3 hO hi h hsz hl hw hS hn0 hF hKF hK
  case bastore => exact ax_s_bastore hT3 hO hi h hsz hl hw hS hn0 hF hKF hK
  case lastore => exact ax_s_lastore hT3 hO hi h hsz hl hw hS hn0 hF hKF hK
  case new => exact ax_s_new hT3 hO hi h hsz hl hw hS hn0 hF hKF hK
  case newarray => exact ax_s_newarray hT3 hO hi h hsz hl hw hS hn0 hF hKF hK
  case invokestatic => exact ax_s_invokestatic hO hi h hsz hl hw hS hn0 hF hKF hK
  case invokespecial => exact ax_s_invokespecial hO hi h hsz hl hw hS hn0 hF hKF hK
  case invokevirtual => exact ax_s_invokevirtual hO hi h hsz hl hw hS hn0 hF hKF hK
  case ireturn =>
    have hdec := ax_dec hMO hi (Nat.succ_ne_zero _)
    dsimp only [ax_ins] at h
    split at h
    · split at h
      · rename_i hrt
        exact hR1 _ h hdec (Or.inl hrt)
      · rename_i hrt
        exact hR1 _ h.2 hdec (Or.inr ⟨hrt, h.1⟩)
      · exact h.elim
    · exact h.elim
  case lreturn =>
    have hdec := ax_dec hMO hi (Nat.succ_ne_zero _)
    dsimp only [ax_ins] at h
    split at h
    · split at h
      · rename_i hrt
        exact hR2 _ h hdec hrt
      · exact h.elim
    · exact h.elim
  case return_ =>
    have hdec := ax_dec hMO hi (Nat.succ_ne_zero _)
    dsimp only [ax_ins] at h
    split at h
    · split at h
      · rename_i hrt
        exact hR3 h hdec hrt
      · exact h.elim
    · exact h.elim
  all_goals exact (show False from h).elim
end
