section
variable {p : Program} {l : Launch} {e : Env} {R : Room} {s : State} {m : MethodId} {args : Array Value} {below : List Frame} {meth : Method} {c : Code} {H : Heap} {locs : List Loc} {Q : State → Prop}
variable {D : va_G} {cA : Nat → ClassId} {b sb : Nat} {ph : Bool} {X : ax_X} {E : ax_E} {M : ax_M} {d n0 nF nL : Nat}
variable {pc : Nat} {i : Instr} {len : Nat} {arr : Array Slot} {ls : ax_L} {st : List Value} {σ : ax_S} {K : Nat → ax_L → List Value → ax_S → Prop} {Rt : Option Value → ax_S → Prop}
theorem ax_lt_of {a : Nat} (hw : ax_wd D cA b ph σ H) (hc : (ph || Nat.blt a σ.1) = true) (ha : a < ax_NT) : a < σ.1 := by
  cases ph with
  | true => rw [hw.2.1 rfl]; exact ha
  | false =>
    rw [Bool.false_or] at hc
    exact ax_blt hc
theorem ax_cv_ofref {a : Nat} (ha : a < 1000) (r : List Value) : (Value.ref a :: r).map (ax_cv b sb) = .ref (b + a) :: r.map (ax_cv b sb) := by
  rw [List.map_cons, ax_cv_ref ha]
theorem ax_s_getfield {x : Nat} (hT3 : ∀ k t n, ax_sh k = .inr (t, n) → t < 3 ∨ t = 9) (hO : ax_On p l R s m args meth c D cA b sb ph X E M d n0 nF nL) (hi : M.2.2.2.2.2 pc = some (.getfield x, len)) (h : ax_ins ph X E M (.getfield x) pc ls st σ K Rt) (hsz : arr.size = nL) (hl : ax_lh b sb arr ls) (hw : ax_wd D cA b ph σ H) (hS : va_S (ax_A b) s.heap H locs) (hn0 : n0 ≤ σ.1) (hF : σ.1 ≤ nF) (hKF : ∀ pc ls st σ', K pc ls st σ' → σ'.1 ≤ nF) (hK : ax_Nx p l e R s m args below meth c Q D cA b sb ph n0 nL σ K) : ax_at p l e R s m args below meth c Q b sb n0 H locs pc arr st σ := by
  obtain ⟨hT, hMO, ⟨hx, hb, hml, hown, hts⟩, hKn, hnm, hX, hE, hEm, hfr, hlo, hRc, hRs⟩ := hO
  have hdec := ax_dec hMO hi (Nat.succ_ne_zero _)
  dsimp only [ax_ins] at h
  split at h
  case h_2 => exact h.elim
  case h_1 =>
  rename_i a r
  split at h
  case h_2 => exact h.elim
  case h_1 =>
  rename_i ci hsh
  split at h
  case h_2 => exact h.elim
  case h_1 =>
  rename_i j hj
  obtain ⟨h1, h⟩ := ax_bif h
  obtain ⟨hN, C, T, N, hc⟩ := hT.2.2.1 a ci hsh
  have ha : a < σ.1 := ax_lt_of hw h1 hN
  have ha2 : a < 1000 := Nat.lt_of_lt_of_le hN (Nat.le_trans hT.2.2.2.2.1.1 (by decide))
  show W p l e R s m args below meth c H locs _ _ Q (F0 m pc arr ((Value.ref a :: r).map (ax_cv b sb)))
  rw [ax_cv_ofref ha2]
  refine ax_W_get hx hb hts hown hKn (hT.1 _ _ _ _ hj) (fun C T N h9 => (hT.2.1 _ _ _ _ h9).1) hsh hw ha hdec ?_
  by_cases hkd : ax_kd ci j = 2
  · rw [hkd] at h
    try dsimp only at h
    cases ph with
    | true =>
      simp only [cond_true] at h
      have e : ax_fv b true σ ci a j = ax_cv b sb (.ref (ax_rf a j)) := by
        unfold ax_fv
        rw [hkd, ax_cv_ref (hT.2.2.2.2.1.2 a j)]
        exact if_pos (Or.inl rfl)
      rw [e]
      exact (hK _ _ _ _ _ _ _ h (Nat.le_refl _) hw hS hl hsz)
    | false =>
      simp only [cond_false] at h
      obtain ⟨h2, h⟩ := h
      have e : ax_fv b false σ ci a j = ax_cv b sb (.ref (ax_rf a j)) := by
        unfold ax_fv
        rw [hkd, ax_cv_ref (hT.2.2.2.2.1.2 a j)]
        exact if_pos (Or.inr h2)
      rw [e]
      exact (hK _ _ _ _ _ _ _ h (Nat.le_refl _) hw hS hl hsz)
  · have e : ax_fv b ph σ ci a j = .int (σ.2.1 a j) := by
      unfold ax_fv
      split
      · contradiction
      · rfl
    rw [e]
    split at h
    · contradiction
    · exact (hK _ _ _ _ _ _ _ h (Nat.le_refl _) hw hS hl hsz)
theorem ax_s_putfield {x : Nat} (hT3 : ∀ k t n, ax_sh k = .inr (t, n) → t < 3 ∨ t = 9) (hO : ax_On p l R s m args meth c D cA b sb ph X E M d n0 nF nL) (hi : M.2.2.2.2.2 pc = some (.putfield x, len)) (h : ax_ins ph X E M (.putfield x) pc ls st σ K Rt) (hsz : arr.size = nL) (hl : ax_lh b sb arr ls) (hw : ax_wd D cA b ph σ H) (hS : va_S (ax_A b) s.heap H locs) (hn0 : n0 ≤ σ.1) (hF : σ.1 ≤ nF) (hKF : ∀ pc ls st σ', K pc ls st σ' → σ'.1 ≤ nF) (hK : ax_Nx p l e R s m args below meth c Q D cA b sb ph n0 nL σ K) : ax_at p l e R s m args below meth c Q b sb n0 H locs pc arr st σ := by
  obtain ⟨hT, hMO, ⟨hx, hb, hml, hown, hts⟩, hKn, hnm, hX, hE, hEm, hfr, hlo, hRc, hRs⟩ := hO
  have hdec := ax_dec hMO hi (Nat.succ_ne_zero _)
  dsimp only [ax_ins] at h
  split at h
  case h_3 => exact h.elim
  case h_1 =>
    rename_i v a r
    split at h
    case h_2 => exact h.elim
    case h_1 =>
    rename_i ci hsh
    split at h
    case h_2 => exact h.elim
    case h_1 =>
    rename_i j hj
    obtain ⟨h1, h⟩ := ax_bif h
    obtain ⟨hN, C, T, N, hc⟩ := hT.2.2.1 a ci hsh
    have ha : a < σ.1 := ax_lt_of hw h1 hN
    have ha2 : a < 1000 := Nat.lt_of_lt_of_le hN (Nat.le_trans hT.2.2.2.2.1.1 (by decide))
    have hFO := hT.1 _ _ _ _ hj
    have hkt : ax_KT (ax_ty ci j) (ax_kd ci j) := by
      obtain ⟨C2, T2, N2, ref, hc2, hj2, -⟩ := hFO
      exact (hT.2.1 _ _ _ _ hc2).1.2.2.2.1 j hj2
    have hfin : ∀ C T N, ax_cl[ci]? = some (C, T, N) → (T j).2.2.2 = false ∨ ((T j).2.2.2 = true ∧ meth.name = "<init>" ∧ (T j).1 = ax_on M.2.2.2.2.1) := fun C T N h9 => by
      rw [hnm]
      exact hMO.2 pc x len ci j hi hj C T N h9
    show W p l e R s m args below meth c H locs _ _ Q (F0 m pc arr ((Value.int v :: Value.ref a :: r).map (ax_cv b sb)))
    rw [List.map_cons, ax_cv_ofref ha2]
    split at h
    · rename_i hkd
      rw [hkd] at hkt
      have hty : ax_ty ci j = .int := hkt
      refine ax_W_put hx hb hts hown hKn hFO (fun C T N h9 => (hT.2.1 _ _ _ _ h9).1) hfin hsh hw hS ha (y := v) ?_ (by rw [hty]; rfl) (by rw [hty]; rfl) hdec (fun H1 locs1 hw1 hS1 => hK _ _ _ (ax_sI σ a j v) _ _ _ h (Nat.le_refl σ.1) hw1 hS1 hl hsz)
      unfold ax_fv
      rw [hkd]
      simp [ax_sI, ax_up_eq, upd, ax_cv]
    · rename_i hkd
      rw [hkd] at hkt
      have hty : ax_ty ci j = .boolean := hkt
      obtain ⟨h2, h⟩ := h
      refine ax_W_put hx hb hts hown hKn hFO (fun C T N h9 => (hT.2.1 _ _ _ _ h9).1) hfin hsh hw hS ha (y := v) ?_ (by rw [hty]; rcases h2 with rfl | rfl <;> rfl) (by rw [hty]; rcases h2 with rfl | rfl <;> rfl) hdec (fun H1 locs1 hw1 hS1 => hK _ _ _ (ax_sI σ a j v) _ _ _ h (Nat.le_refl σ.1) hw1 hS1 hl hsz)
      unfold ax_fv
      rw [hkd]
      simp [ax_sI, ax_up_eq, upd, ax_cv]
    · exact h.elim
  case h_2 =>
    rename_i v a r
    split at h
    case h_2 => exact h.elim
    case h_1 =>
    rename_i ci hsh
    split at h
    case h_2 => exact h.elim
    case h_1 =>
    rename_i j hj
    obtain ⟨h1, h⟩ := ax_bif h
    simp only [Bool.and_eq_true] at h1
    obtain ⟨⟨hp, h1⟩, hve⟩ := h1
    have hve := Nat.eq_of_beq_eq_true hve
    have ha : a < σ.1 := ax_blt h1
    obtain ⟨hN, C, T, N, hc⟩ := hT.2.2.1 a ci hsh
    have ha2 : a < 1000 := Nat.lt_of_lt_of_le hN (Nat.le_trans hT.2.2.2.2.1.1 (by decide))
    have hFO := hT.1 _ _ _ _ hj
    have hkt : ax_KT (ax_ty ci j) (ax_kd ci j) := by
      obtain ⟨C2, T2, N2, ref, hc2, hj2, -⟩ := hFO
      exact (hT.2.1 _ _ _ _ hc2).1.2.2.2.1 j hj2
    have hfin : ∀ C T N, ax_cl[ci]? = some (C, T, N) → (T j).2.2.2 = false ∨ ((T j).2.2.2 = true ∧ meth.name = "<init>" ∧ (T j).1 = ax_on M.2.2.2.2.1) := fun C T N h9 => by
      rw [hnm]
      exact hMO.2 pc x len ci j hi hj C T N h9
    show W p l e R s m args below meth c H locs _ _ Q (F0 m pc arr ((Value.ref v :: Value.ref a :: r).map (ax_cv b sb)))
    have hv2 : v < 1000 := by rw [hve]; exact hT.2.2.2.2.1.2 a j
    rw [ax_cv_ofref hv2, ax_cv_ofref ha2]
    split at h
    · rename_i hkd
      rw [hkd] at hkt
      have hnar : narrow (ax_ty ci j) (.ref (b + v)) = .ref (b + v) := by rcases hkt with ⟨n, h9⟩ | ⟨t, h9⟩ <;> rw [h9] <;> rfl
      have hfit : fits (ax_ty ci j) (.ref (b + v)) = true := by rcases hkt with ⟨n, h9⟩ | ⟨t, h9⟩ <;> rw [h9] <;> rfl
      refine ax_W_put hx hb hts hown hKn hFO (fun C T N h9 => (hT.2.1 _ _ _ _ h9).1) hfin hsh hw hS ha (y := 1) ?_ hnar hfit hdec (fun H1 locs1 hw1 hS1 => hK _ _ _ (ax_sI σ a j 1) _ _ _ h (Nat.le_refl σ.1) hw1 hS1 hl hsz)
      unfold ax_fv
      rw [hkd]
      simp [ax_sI, ax_up_eq, upd, hve]
    · exact h.elim
theorem ax_s_arraylength (hT3 : ∀ k t n, ax_sh k = .inr (t, n) → t < 3 ∨ t = 9) (hO : ax_On p l R s m args meth c D cA b sb ph X E M d n0 nF nL) (hi : M.2.2.2.2.2 pc = some (.arraylength, len)) (h : ax_ins ph X E M (.arraylength) pc ls st σ K Rt) (hsz : arr.size = nL) (hl : ax_lh b sb arr ls) (hw : ax_wd D cA b ph σ H) (hS : va_S (ax_A b) s.heap H locs) (hn0 : n0 ≤ σ.1) (hF : σ.1 ≤ nF) (hKF : ∀ pc ls st σ', K pc ls st σ' → σ'.1 ≤ nF) (hK : ax_Nx p l e R s m args below meth c Q D cA b sb ph n0 nL σ K) : ax_at p l e R s m args below meth c Q b sb n0 H locs pc arr st σ := by
  obtain ⟨hT, hMO, ⟨hx, hb, hml, hown, hts⟩, hKn, hnm, hX, hE, hEm, hfr, hlo, hRc, hRs⟩ := hO
  have hdec := ax_dec hMO hi (Nat.succ_ne_zero _)
  dsimp only [ax_ins] at h
  split at h
  case h_2 => exact h.elim
  case h_1 =>
  rename_i a r
  split at h
  · rename_i q
    obtain ⟨h1, h8⟩ := ax_bif h
    clear h
    have h := h8
    clear h8
    have ha := Nat.eq_of_beq_eq_true h1
    subst ha
    obtain ⟨hX1, hX2, hX3⟩ := hX q rfl
    show W p l e R s m args below meth c H locs _ _ Q (F0 m pc arr (.ref sb :: r.map (ax_cv b sb)))
    exact va_slen hx hb hX1 hX2 (by show ¬ b ≤ sb; omega) hS hdec (hK _ _ _ _ _ _ _ h (Nat.le_refl _) hw hS hl hsz)
  · split at h
    case h_2 => exact h.elim
    case h_1 =>
    rename_i t n hsh
    obtain ⟨h1, h⟩ := ax_bif h
    simp only [Bool.and_eq_true] at h1
    obtain ⟨ht, h1⟩ := h1
    obtain ⟨hN, -⟩ := hT.2.2.2.1 a t n hsh (ax_blt ht)
    have ha : a < σ.1 := ax_lt_of hw h1 hN
    have ha2 : a < 1000 := Nat.lt_of_lt_of_le hN (Nat.le_trans hT.2.2.2.2.1.1 (by decide))
    show W p l e R s m args below meth c H locs _ _ Q (F0 m pc arr ((Value.ref a :: r).map (ax_cv b sb)))
    rw [ax_cv_ofref ha2]
    exact ax_W_alen hx hb hKn hsh hw ha hdec (hK _ _ _ _ _ _ _ h (Nat.le_refl _) hw hS hl hsz)
theorem ax_s_iaload (hT3 : ∀ k t n, ax_sh k = .inr (t, n) → t < 3 ∨ t = 9) (hO : ax_On p l R s m args meth c D cA b sb ph X E M d n0 nF nL) (hi : M.2.2.2.2.2 pc = some (.iaload, len)) (h : ax_ins ph X E M (.iaload) pc ls st σ K Rt) (hsz : arr.size = nL) (hl : ax_lh b sb arr ls) (hw : ax_wd D cA b ph σ H) (hS : va_S (ax_A b) s.heap H locs) (hn0 : n0 ≤ σ.1) (hF : σ.1 ≤ nF) (hKF : ∀ pc ls st σ', K pc ls st σ' → σ'.1 ≤ nF) (hK : ax_Nx p l e R s m args below meth c Q D cA b sb ph n0 nL σ K) : ax_at p l e R s m args below meth c Q b sb n0 H locs pc arr st σ := by
  obtain ⟨hT, hMO, ⟨hx, hb, hml, hown, hts⟩, hKn, hnm, hX, hE, hEm, hfr, hlo, hRc, hRs⟩ := hO
  have hdec := ax_dec hMO hi (Nat.succ_ne_zero _)
  dsimp only [ax_ins] at h
  split at h
  case h_2 => exact h.elim
  case h_1 =>
  rename_i i a r
  split at h
  · rename_i q
    obtain ⟨h1, h8⟩ := ax_bif h
    clear h
    obtain ⟨h2, h⟩ := h8
    have ha := Nat.eq_of_beq_eq_true h1
    subst ha
    obtain ⟨hX1, hX2, hX3⟩ := hX q rfl
    show W p l e R s m args below meth c H locs _ _ Q (F0 m pc arr (.int i :: .ref sb :: r.map (ax_cv b sb)))
    exact va_sld hx hb hX1 hX2 (by show ¬ b ≤ sb; omega) hS h2 hdec (hK _ _ _ _ _ _ _ h (Nat.le_refl _) hw hS hl hsz)
  · split at h
    case h_2 => exact h.elim
    case h_1 =>
    rename_i n hsh
    obtain ⟨h1, h⟩ := ax_bif h
    obtain ⟨h2, h⟩ := h
    obtain ⟨hN, -⟩ := hT.2.2.2.1 a 0 n hsh (by decide)
    have ha : a < σ.1 := ax_lt_of hw h1 hN
    have ha2 : a < 1000 := Nat.lt_of_lt_of_le hN (Nat.le_trans hT.2.2.2.2.1.1 (by decide))
    show W p l e R s m args below meth c H locs _ _ Q (F0 m pc arr ((Value.int i :: Value.ref a :: r).map (ax_cv b sb)))
    rw [List.map_cons, ax_cv_ofref ha2]
    exact ax_W_iald hx hb hKn hsh hw ha h2 hdec (hK _ _ _ _ _ _ _ h (Nat.le_refl _) hw hS hl hsz)
theorem ax_s_baload (hT3 : ∀ k t n, ax_sh k = .inr (t, n) → t < 3 ∨ t = 9) (hO : ax_On p l R s m args meth c D cA b sb ph X E M d n0 nF nL) (hi : M.2.2.2.2.2 pc = some (.baload, len)) (h : ax_ins ph X E M (.baload) pc ls st σ K Rt) (hsz : arr.size = nL) (hl : ax_lh b sb arr ls) (hw : ax_wd D cA b ph σ H) (hS : va_S (ax_A b) s.heap H locs) (hn0 : n0 ≤ σ.1) (hF : σ.1 ≤ nF) (hKF : ∀ pc ls st σ', K pc ls st σ' → σ'.1 ≤ nF) (hK : ax_Nx p l e R s m args below meth c Q D cA b sb ph n0 nL σ K) : ax_at p l e R s m args below meth c Q b sb n0 H locs pc arr st σ := by
  obtain ⟨hT, hMO, ⟨hx, hb, hml, hown, hts⟩, hKn, hnm, hX, hE, hEm, hfr, hlo, hRc, hRs⟩ := hO
  have hdec := ax_dec hMO hi (Nat.succ_ne_zero _)
  dsimp only [ax_ins] at h
  split at h
  case h_2 => exact h.elim
  case h_1 =>
  rename_i i a r
  · split at h
    case h_2 => exact h.elim
    case h_1 =>
    rename_i n hsh
    obtain ⟨h1, h⟩ := ax_bif h
    obtain ⟨h2, h⟩ := h
    obtain ⟨hN, -⟩ := hT.2.2.2.1 a 1 n hsh (by decide)
    have ha : a < σ.1 := ax_lt_of hw h1 hN
    have ha2 : a < 1000 := Nat.lt_of_lt_of_le hN (Nat.le_trans hT.2.2.2.2.1.1 (by decide))
    show W p l e R s m args below meth c H locs _ _ Q (F0 m pc arr ((Value.int i :: Value.ref a :: r).map (ax_cv b sb)))
    rw [List.map_cons, ax_cv_ofref ha2]
    exact ax_W_bald hx hb hKn hsh hw ha h2 hdec (hK _ _ _ _ _ _ _ h (Nat.le_refl _) hw hS hl hsz)
theorem ax_s_laload (hT3 : ∀ k t n, ax_sh k = .inr (t, n) → t < 3 ∨ t = 9) (hO : ax_On p l R s m args meth c D cA b sb ph X E M d n0 nF nL) (hi : M.2.2.2.2.2 pc = some (.laload, len)) (h : ax_ins ph X E M (.laload) pc ls st σ K Rt) (hsz : arr.size = nL) (hl : ax_lh b sb arr ls) (hw : ax_wd D cA b ph σ H) (hS : va_S (ax_A b) s.heap H locs) (hn0 : n0 ≤ σ.1) (hF : σ.1 ≤ nF) (hKF : ∀ pc ls st σ', K pc ls st σ' → σ'.1 ≤ nF) (hK : ax_Nx p l e R s m args below meth c Q D cA b sb ph n0 nL σ K) : ax_at p l e R s m args below meth c Q b sb n0 H locs pc arr st σ := by
  obtain ⟨hT, hMO, ⟨hx, hb, hml, hown, hts⟩, hKn, hnm, hX, hE, hEm, hfr, hlo, hRc, hRs⟩ := hO
  have hdec := ax_dec hMO hi (Nat.succ_ne_zero _)
  dsimp only [ax_ins] at h
  split at h
  case h_2 => exact h.elim
  case h_1 =>
  rename_i i a r
  · split at h
    case h_2 => exact h.elim
    case h_1 =>
    rename_i n hsh
    obtain ⟨h1, h⟩ := ax_bif h
    obtain ⟨h2, h⟩ := h
    obtain ⟨hN, -⟩ := hT.2.2.2.1 a 2 n hsh (by decide)
    have ha : a < σ.1 := ax_lt_of hw h1 hN
    have ha2 : a < 1000 := Nat.lt_of_lt_of_le hN (Nat.le_trans hT.2.2.2.2.1.1 (by decide))
    show W p l e R s m args below meth c H locs _ _ Q (F0 m pc arr ((Value.int i :: Value.ref a :: r).map (ax_cv b sb)))
    rw [List.map_cons, ax_cv_ofref ha2]
    exact ax_W_lald hx hb hKn hsh hw ha h2 hdec (hK _ _ _ _ _ _ _ h (Nat.le_refl _) hw hS hl hsz)
theorem ax_s_iastore (hT3 : ∀ k t n, ax_sh k = .inr (t, n) → t < 3 ∨ t = 9) (hO : ax_On p l R s m args meth c D cA b sb ph X E M d n0 nF nL) (hi : M.2.2.2.2.2 pc = some (.iastore, len)) (h : ax_ins ph X E M (.iastore) pc ls st σ K Rt) (hsz : arr.size = nL) (hl : ax_lh b sb arr ls) (hw : ax_wd D cA b ph σ H) (hS : va_S (ax_A b) s.heap H locs) (hn0 : n0 ≤ σ.1) (hF : σ.1 ≤ nF) (hKF : ∀ pc ls st σ', K pc ls st σ' → σ'.1 ≤ nF) (hK : ax_Nx p l e R s m args below meth c Q D cA b sb ph n0 nL σ K) : ax_at p l e R s m args below meth c Q b sb n0 H locs pc arr st σ := by
  obtain ⟨hT, hMO, ⟨hx, hb, hml, hown, hts⟩, hKn, hnm, hX, hE, hEm, hfr, hlo, hRc, hRs⟩ := hO
  have hdec := ax_dec hMO hi (Nat.succ_ne_zero _)
  dsimp only [ax_ins] at h
  split at h
  case h_2 => exact h.elim
  case h_1 =>
  rename_i y i a r
  · split at h
    case h_2 => exact h.elim
    case h_1 =>
    rename_i n hsh
    obtain ⟨h1, h⟩ := ax_bif h
    obtain ⟨h2, h⟩ := h
    obtain ⟨hN, -⟩ := hT.2.2.2.1 a 0 n hsh (by decide)
    have ha : a < σ.1 := ax_lt_of hw h1 hN
    have ha2 : a < 1000 := Nat.lt_of_lt_of_le hN (Nat.le_trans hT.2.2.2.2.1.1 (by decide))
    show W p l e R s m args below meth c H locs _ _ Q (F0 m pc arr ((Value.int y :: Value.int i :: Value.ref a :: r).map (ax_cv b sb)))
    rw [List.map_cons, List.map_cons, ax_cv_ofref ha2]
    exact ax_W_iast hx hb hKn hsh hw hS ha h2 hdec (fun H1 locs1 hw1 hS1 => hK _ _ _ (ax_sI σ a i.toNatClampNeg y) _ _ _ h (Nat.le_refl σ.1) hw1 hS1 hl hsz)
theorem ax_s_bastore (hT3 : ∀ k t n, ax_sh k = .inr (t, n) → t < 3 ∨ t = 9) (hO : ax_On p l R s m args meth c D cA b sb ph X E M d n0 nF nL) (hi : M.2.2.2.2.2 pc = some (.bastore, len)) (h : ax_ins ph X E M (.bastore) pc ls st σ K Rt) (hsz : arr.size = nL) (hl : ax_lh b sb arr ls) (hw : ax_wd D cA b ph σ H) (hS : va_S (ax_A b) s.heap H locs) (hn0 : n0 ≤ σ.1) (hF : σ.1 ≤ nF) (hKF : ∀ pc ls st σ', K pc ls st σ' → σ'.1 ≤ nF) (hK : ax_Nx p l e R s m args below meth c Q D cA b sb ph n0 nL σ K) : ax_at p l e R s m args below meth c Q b sb n0 H locs pc arr st σ := by
  obtain ⟨hT, hMO, ⟨hx, hb, hml, hown, hts⟩, hKn, hnm, hX, hE, hEm, hfr, hlo, hRc, hRs⟩ := hO
  have hdec := ax_dec hMO hi (Nat.succ_ne_zero _)
  dsimp only [ax_ins] at h
  split at h
  case h_2 => exact h.elim
  case h_1 =>
  rename_i y i a r
  · split at h
    case h_2 => exact h.elim
    case h_1 =>
    rename_i n hsh
    obtain ⟨h1, h⟩ := ax_bif h
    obtain ⟨h2, h⟩ := h
    obtain ⟨hN, -⟩ := hT.2.2.2.1 a 1 n hsh (by decide)
    have ha : a < σ.1 := ax_lt_of hw h1 hN
    have ha2 : a < 1000 := Nat.lt_of_lt_of_le hN (Nat.le_trans hT.2.2.2.2.1.1 (by decide))
    show W p l e R s m args below meth c H locs _ _ Q (F0 m pc arr ((Value.int y :: Value.int i :: Value.ref a :: r).map (ax_cv b sb)))
    rw [List.map_cons, List.map_cons, ax_cv_ofref ha2]
    exact ax_W_bast hx hb hKn hsh hw hS ha h2 hdec (fun H1 locs1 hw1 hS1 => hK _ _ _ (ax_sI σ a i.toNatClampNeg y.toInt8.toInt32) _ _ _ h (Nat.le_refl σ.1) hw1 hS1 hl hsz)
theorem ax_s_lastore (hT3 : ∀ k t n, ax_sh k = .inr (t, n) → t < 3 ∨ t = 9) (hO : ax_On p l R s m args meth c D cA b sb ph X E M d n0 nF nL) (hi : M.2.2.2.2.2 pc = some (.lastore, len)) (h : ax_ins ph X E M (.lastore) pc ls st σ K Rt) (hsz : arr.size = nL) (hl : ax_lh b sb arr ls) (hw : ax_wd D cA b ph σ H) (hS : va_S (ax_A b) s.heap H locs) (hn0 : n0 ≤ σ.1) (hF : σ.1 ≤ nF) (hKF : ∀ pc ls st σ', K pc ls st σ' → σ'.1 ≤ nF) (hK : ax_Nx p l e R s m args below meth c Q D cA b sb ph n0 nL σ K) : ax_at p l e R s m args below meth c Q b sb n0 H locs pc arr st σ := by
  obtain ⟨hT, hMO, ⟨hx, hb, hml, hown, hts⟩, hKn, hnm, hX, hE, hEm, hfr, hlo, hRc, hRs⟩ := hO
  have hdec := ax_dec hMO hi (Nat.succ_ne_zero _)
  dsimp only [ax_ins] at h
  split at h
  case h_2 => exact h.elim
  case h_1 =>
  rename_i y i a r
  · split at h
    case h_2 => exact h.elim
    case h_1 =>
    rename_i n hsh
    obtain ⟨h1, h⟩ := ax_bif h
    obtain ⟨h2, h⟩ := h
    obtain ⟨hN, -⟩ := hT.2.2.2.1 a 2 n hsh (by decide)
    have ha : a < σ.1 := ax_lt_of hw h1 hN
    have ha2 : a < 1000 := Nat.lt_of_lt_of_le hN (Nat.le_trans hT.2.2.2.2.1.1 (by decide))
    show W p l e R s m args below meth c H locs _ _ Q (F0 m pc arr ((Value.long y :: Value.int i :: Value.ref a :: r).map (ax_cv b sb)))
    rw [List.map_cons, List.map_cons, ax_cv_ofref ha2]
    exact ax_W_last hx hb hKn hsh hw hS ha h2 hdec (fun H1 locs1 hw1 hS1 => hK _ _ _ (ax_sL σ a i.toNatClampNeg y) _ _ _ h (Nat.le_refl σ.1) hw1 hS1 hl hsz)
theorem ax_s_new {x : Nat} (hT3 : ∀ k t n, ax_sh k = .inr (t, n) → t < 3 ∨ t = 9) (hO : ax_On p l R s m args meth c D cA b sb ph X E M d n0 nF nL) (hi : M.2.2.2.2.2 pc = some (.new x, len)) (h : ax_ins ph X E M (.new x) pc ls st σ K Rt) (hsz : arr.size = nL) (hl : ax_lh b sb arr ls) (hw : ax_wd D cA b ph σ H) (hS : va_S (ax_A b) s.heap H locs) (hn0 : n0 ≤ σ.1) (hF : σ.1 ≤ nF) (hKF : ∀ pc ls st σ', K pc ls st σ' → σ'.1 ≤ nF) (hK : ax_Nx p l e R s m args below meth c Q D cA b sb ph n0 nL σ K) : ax_at p l e R s m args below meth c Q b sb n0 H locs pc arr st σ := by
  obtain ⟨hT, hMO, ⟨hx, hb, hml, hown, hts⟩, hKn, hnm, hX, hE, hEm, hfr, hlo, hRc, hRs⟩ := hO
  have hdec := ax_dec hMO hi (Nat.succ_ne_zero _)
  dsimp only [ax_ins] at h
  split at h
  case h_2 => exact h.elim
  case h_1 =>
  rename_i ci hnw
  split at h
  case h_2 => exact h.elim
  case h_1 =>
  rename_i c2 hsh
  obtain ⟨h1, h8⟩ := ax_bif h
  clear h
  simp only [Bool.and_eq_true] at h1
  obtain ⟨hp, h1⟩ := h1
  have hce := Nat.eq_of_beq_eq_true h1
  subst hce
  cases ph with
  | true => cases hp
  | false =>
  have h := h8
  clear h8
  obtain ⟨hN, C, T, N, hc⟩ := hT.2.2.1 _ _ hsh
  obtain ⟨hC, hNl⟩ := hT.2.1 _ _ _ _ hc
  obtain ⟨hk1, hk2⟩ := hT.2.2.2.2.2.2.2.1 _ _ _ _ _ _ hnw hc
  have hle := hKF _ _ _ _ h
  have hle : σ.1 + 1 ≤ nF := hle
  have hsz1 : ax_sl (σ.1 + 1) = ax_sl σ.1 + N := by
    show ax_sl σ.1 + ax_sz σ.1 = _
    unfold ax_sz
    simp only [hsh]
    rw [hNl]
  have hmn := ax_sl_mono hle
  have hm0 := ax_sl_mono hn0
  have ha2 : σ.1 < 1000 := Nat.lt_of_lt_of_le hN (Nat.le_trans hT.2.2.2.2.1.1 (by decide))
  refine ax_W_new hx hb hts hown hKn hk1 hk2 hc hC hsh hw hS (by omega) (by omega) hdec (fun H1 hw1 hS1 => ?_)
  have hgo := hK _ _ _ _ _ _ _ h (Nat.le_succ _) hw1 hS1 hl hsz
  have e1 : (ax_nc σ).1 - n0 = σ.1 - n0 + 1 := by show σ.1 + 1 - n0 = _; omega
  have e2 : ax_sl (ax_nc σ).1 - ax_sl n0 = ax_sl σ.1 - ax_sl n0 + N := by
    show ax_sl (σ.1 + 1) - ax_sl n0 = _
    rw [hsz1]; omega
  unfold ax_at at hgo
  rw [e1, e2, ax_cv_ofref ha2] at hgo
  exact hgo
theorem ax_s_newarray {t : ArrayType} (hT3 : ∀ k t n, ax_sh k = .inr (t, n) → t < 3 ∨ t = 9) (hO : ax_On p l R s m args meth c D cA b sb ph X E M d n0 nF nL) (hi : M.2.2.2.2.2 pc = some (.newarray t, len)) (h : ax_ins ph X E M (.newarray t) pc ls st σ K Rt) (hsz : arr.size = nL) (hl : ax_lh b sb arr ls) (hw : ax_wd D cA b ph σ H) (hS : va_S (ax_A b) s.heap H locs) (hn0 : n0 ≤ σ.1) (hF : σ.1 ≤ nF) (hKF : ∀ pc ls st σ', K pc ls st σ' → σ'.1 ≤ nF) (hK : ax_Nx p l e R s m args below meth c Q D cA b sb ph n0 nL σ K) : ax_at p l e R s m args below meth c Q b sb n0 H locs pc arr st σ := by
  obtain ⟨hT, hMO, ⟨hx, hb, hml, hown, hts⟩, hKn, hnm, hX, hE, hEm, hfr, hlo, hRc, hRs⟩ := hO
  have hdec := ax_dec hMO hi (Nat.succ_ne_zero _)
  dsimp only [ax_ins] at h
  split at h
  case h_2 => exact h.elim
  case h_1 =>
  rename_i n r
  split at h
  case h_2 => exact h.elim
  case h_1 =>
  rename_i tc k hsh
  obtain ⟨h1, h2, h8⟩ := ax_bif h
  clear h
  simp only [Bool.and_eq_true] at h1
  obtain ⟨hp, h1⟩ := h1
  have hce := Nat.eq_of_beq_eq_true h1
  cases ph with
  | true => cases hp
  | false =>
  have h := h8
  clear h8
  have htt : tc < 3 ∧ newarray.typeOf t = ax_tya tc := by
    cases t <;> first | (exfalso; have h3 := hT3 _ _ _ hsh; rw [hce] at h3; exact absurd h3 (by decide)) | (rw [hce]; exact ⟨by decide, rfl⟩)
  obtain ⟨hN, hk4⟩ := hT.2.2.2.1 _ _ _ hsh htt.1
  have hle := hKF _ _ _ _ h
  have hle : σ.1 + 1 ≤ nF := hle
  have hsz1 : ax_sl (σ.1 + 1) = ax_sl σ.1 + k := by
    show ax_sl σ.1 + ax_sz σ.1 = _
    unfold ax_sz
    simp only [hsh]
  have hmn := ax_sl_mono hle
  have hm0 := ax_sl_mono hn0
  have ha2 : σ.1 < 1000 := Nat.lt_of_lt_of_le hN (Nat.le_trans hT.2.2.2.2.1.1 (by decide))
  subst h2
  refine ax_W_newa hx hb hKn htt.1 htt.2 (hts _ (hT.2.2.2.2.2.2.2.2.1 tc htt.1)) hsh hk4 hw hS (by omega) (by omega) hdec (fun H1 hw1 hS1 => ?_)
  have hgo := hK _ _ _ _ _ _ _ h (Nat.le_succ _) hw1 hS1 hl hsz
  have e1 : (ax_nc σ).1 - n0 = σ.1 - n0 + 1 := by show σ.1 + 1 - n0 = _; omega
  have e2 : ax_sl (ax_nc σ).1 - ax_sl n0 = ax_sl σ.1 - ax_sl n0 + k := by
    show ax_sl (σ.1 + 1) - ax_sl n0 = _
    rw [hsz1]; omega
  unfold ax_at at hgo
  rw [e1, e2, ax_cv_ofref ha2] at hgo
  exact hgo
end
