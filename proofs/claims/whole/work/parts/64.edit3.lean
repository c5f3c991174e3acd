/-! edits: the whole line about a figure -/
theorem a_fe (x : Int32) (s : ax_S) : ∃ v3 v5 t, XFi_isTold_26 x s = some v3 ∧ XTa_peek (XEdRe_readFigureEdit_j20 x v3 s) = some v5 ∧ XEdRe_readFigureEdit_j39 x v5 (XEdRe_readFigureEdit_j20 x v3 s) = some t ∧ ((XEdRe_readFigureEdit_j20 x v3 s).2.1 1 5 ≠ 0 → (XTa_step t).2.1 1 5 = (XEdRe_readFigureEdit_j20 x v3 s).2.1 1 5) ∧ t_K s (XEdRe_readFigureEdit_j20 x v3 s) ∧ t_P2 s (XTa_step t) := by
  obtain ⟨v3, h3⟩ := a_told26 x s
  obtain ⟨v5, h5⟩ := a_peek (XEdRe_readFigureEdit_j20 x v3 s)
  obtain ⟨t, h6, h7, h8⟩ := a_j39 x v5 (XEdRe_readFigureEdit_j20 x v3 s)
  have k : t_K s (XEdRe_readFigureEdit_j20 x v3 s) := by
    unfold XEdRe_readFigureEdit_j20 XTa_refuseNumber
    split
    · exact K_ref _ _ _
    · exact K_refl _
  refine ⟨v3, v5, t, h3, h5, h6, fun e => ?_, k, P2_tr (K_P2 k) (P2_tr h8 (K_P2 (K_3 _ _)))⟩
  have := (K_3 t (t.2.1 1 3 + 1)).1 (by rw [h7 e]; exact e)
  exact this.trans (h7 e)
theorem X_mv2 (v : Nat) (hv : v < 12) (y z : Int32) (s : ax_S) (l t l2 t2 : Nat) (h0 : ¬ s.2.1 27 v = -1) (hl : s.2.1 28 v = nI l) (ht : s.2.1 29 v = nI t)
    (c : (X_isOnPrint (nI l + y) (nI t + z) (s.2.1 30 v) (s.2.1 31 v) s = 0 ∧ l2 = l ∧ t2 = t) ∨ (X_isOnPrint (nI l + y) (nI t + z) (s.2.1 30 v) (s.2.1 31 v) s = 1 ∧ nI l + y = nI l2 ∧ nI t + z = nI t2)) : ∃ tX, XFi_move_26 (nI v) y z s = some tX ∧ (∀ c j, ¬ ((c = 28 ∨ c = 29) ∧ j = v) → tX.2.1 c j = s.2.1 c j) ∧ tX.2.1 28 v = nI l2 ∧ tX.2.1 29 v = nI t2 := by
  rw [X_mv v hv y z s h0, hl, ht]
  rcases c with ⟨c, rfl, rfl⟩ | ⟨c, c1, c2⟩
  · exact ⟨s, by rw [if_pos c], fun _ _ _ => rfl, hl, ht⟩
  · refine ⟨_, by rw [if_neg (by rw [c]; decide)], fun c j d => r_two c j (by omega) (by omega), ?_, ?_⟩
    · rw [r_I (by omega), r_Ie, r_u]; exact c1
    · rw [r_Ie, r_u]; exact c2
theorem m_fig (v : Nat) (hv : v ≤ 99) (s : ax_S) : M_isFigure (nI v) s = some (if v < 12 ∧ ¬ s.2.1 64 v = -1 then 1 else 0) := by
  by_cases c : v < 12
  · rw [M_fig_eq s v c]
    by_cases d : s.2.1 64 v = -1
    · rw [if_pos d, if_neg (fun x => x.2 d)]
    · rw [if_neg d, if_pos ⟨c, d⟩]
  · unfold M_isFigure
    have m : M_in (nI v) 0 11 s = _ := M_in_n (a := v) (b := 0) (c := 11) (by omega) (by omega) (by omega) s
    rw [if_neg (by omega)] at m
    rw [m, if_pos rfl, if_neg (by omega)]
theorem x_fig (v : Nat) (hv : v ≤ 99) (s : ax_S) : XFi_isTold_26 (nI v) s = some (if v < 12 ∧ ¬ s.2.1 27 v = -1 then 1 else 0) := by
  unfold XFi_isTold_26
  by_cases c : v < 12
  · simp (disch := omega) only [q_12, z_cl, z_lt0, z_le, z_nle, if_false, or_self]
    by_cases d : s.2.1 27 v = -1
    · rw [if_pos d, if_neg (fun x => x.2 d)]
    · rw [if_neg d, if_pos ⟨c, d⟩]
  · simp (disch := omega) only [q_12, z_lt0, if_false, z_le]
    rw [if_pos (by omega), if_neg (by omega)]
theorem m_max (l : Nat) (hl : l ≤ 100) (s : ax_S) : M_max 0 (nI l - 1) s = nI (l - 1) := by
  unfold M_max
  by_cases c : l = 0
  · subst c; rfl
  · rw [show (1 : Int32) = nI 1 from rfl, z_sub (by omega), if_pos (nI_pos' (by omega))]
theorem m_min (a b : Nat) (ha : a ≤ 100) (hb : b ≤ 100) (s : ax_S) : M_min (nI a) (nI b) s = nI (min a b) := by
  unfold M_min
  by_cases c : b ≤ a
  · rw [if_pos (by rw [z_le (by omega) (by omega)]; exact c), Nat.min_eq_right c]
  · rw [if_neg (by rw [z_le (by omega) (by omega)]; exact c), Nat.min_eq_left (by omega)]
theorem t_emove {B : Nat → Nat} {n a : Nat} {sX sM : ax_S} (h : t_X B n (a + 1) sX) (g : t_M B n a sM) (hR : t_R sX sM) (hW : t_W sX sM) (hB : ∀ k, B k < 256) (hn : n ≤ 260) (ha : a < n) :
    ∃ tX y tM, XEdRe_readFigureEdit sX = some tX ∧ M_readsMove sM = some (y, tM) ∧ t_P2 sX tX ∧ t_Q2 sM tM ∧ ((y = 1 ∧ ∃ b, a < b ∧ b ≤ n ∧ t_X B n b tX ∧ t_M B n b tM ∧ tM.2.1 63 28 = sM.2.1 63 28 ∧ t_R tX tM ∧ t_W tX tM) ∨ (y = 0 ∧ t_F tX tM)) := by
  unfold XEdRe_readFigureEdit M_readsMove
  obtain ⟨x, s2, y, t3, e1, e2, k1, n1, e3, e4⟩ := t_amount h (M_st g).1 hB hn (by omega)
  have nn := N_tr (M_st g).2 n1
  simp only [e1, e2]
  obtain ⟨v3, v5, tX, g1, g2, g3, g4, g5, g6⟩ := a_fe x s2
  rcases e4 with ⟨rfl, v, b, f1, f2, f3, rfl, f5, f6, f7⟩ | ⟨rfl, hF⟩
  rotate_left
  · simp only [g1, g2, g3, if_true]
    refine ⟨_, 0, t3, rfl, rfl, P2_tr (K_P2 k1) g6, N_Q2 nn, Or.inr ⟨rfl, ?_⟩⟩
    obtain ⟨q, p, i1, i2, i3, i4, i5⟩ := F_K hF g5
    exact ⟨q, p, i1, i2, i3, by rw [g4 (by rw [i4]; exact (t_fc_ne i1 i2 i3).1)]; exact i4, i5⟩
  have hR3 : t_R s2 t3 := R_KN hR (fun c j _ _ => k1.2 c j (by omega)) (fun j _ => nn 64 j (by omega))
  have hW3 : t_W s2 t3 := W_KN hW (fun j => k1.2 32 j (by omega)) (fun j _ _ => nn 64 j (by omega))
  have h28 : t3.2.1 63 28 = sM.2.1 63 28 := nn _ _ (by omega)
  simp only [z_10, if_false, f5, m_fig v f1]
  have hx := x_fig v f1 s2
  rw [hx] at g1
  by_cases hv : v < 12
  rotate_left
  · rw [if_neg (by omega)] at g1
    obtain rfl : 0 = v3 := by simpa using g1
    rw [if_neg (by omega)] at hx
    simp only [hx, g2, g3, show ¬ (v < 12 ∧ ¬ t3.2.1 64 v = -1) by omega, if_false, if_true]
    obtain ⟨w1, w2, w3⟩ := M_wr 7 (a + 1) t3
    refine ⟨_, 0, (M_wrongAt (nI 7) (nI (a + 1)) t3).2, rfl, by rw [g.2.1, z_1]; rfl, P2_tr (K_P2 k1) g6, N_Q2 (N_tr nn w3), Or.inr ⟨rfl, 7, a + 1, by omega, by omega, by omega, ?_, w2⟩⟩
    have hj : XEdRe_readFigureEdit_j20 (nI v) 0 s2 = XTa_refuseAt (nI 7) (nI (a + 1)) s2 := by
      unfold XEdRe_readFigureEdit_j20 XTa_refuseNumber
      rw [if_pos rfl, e3]; rfl
    rw [hj] at g4
    rw [g4 (by rw [X_rf f6]; exact (t_fc_ne (by omega) (by omega) (by omega)).1), X_rf f6]
  have hRv := hR3 v hv
  have hRv0 : s2.2.1 27 v = t3.2.1 64 v := by
    have := hRv.1
    simp only [vX, vM, Nat.mul_zero, Nat.zero_add, Nat.add_zero] at this
    exact this
  by_cases hu : t3.2.1 64 v = -1
  · rw [if_neg (by rw [hRv0]; exact fun x => x.2 hu)] at g1 hx
    obtain rfl : 0 = v3 := by simpa using g1
    simp only [hx, g2, g3, show ¬ (v < 12 ∧ ¬ t3.2.1 64 v = -1) from fun x => x.2 hu, if_false, if_true]
    obtain ⟨w1, w2, w3⟩ := M_wr 7 (a + 1) t3
    refine ⟨_, 0, (M_wrongAt (nI 7) (nI (a + 1)) t3).2, rfl, by rw [g.2.1, z_1]; rfl, P2_tr (K_P2 k1) g6, N_Q2 (N_tr nn w3), Or.inr ⟨rfl, 7, a + 1, by omega, by omega, by omega, ?_, w2⟩⟩
    have hj : XEdRe_readFigureEdit_j20 (nI v) 0 s2 = XTa_refuseAt (nI 7) (nI (a + 1)) s2 := by
      unfold XEdRe_readFigureEdit_j20 XTa_refuseNumber
      rw [if_pos rfl, e3]; rfl
    rw [hj] at g4
    rw [g4 (by rw [X_rf f6]; exact (t_fc_ne (by omega) (by omega) (by omega)).1), X_rf f6]
  have hu2 : ¬ s2.2.1 27 v = -1 := by rw [hRv0]; exact hu
  have hj : XEdRe_readFigureEdit_j20 (nI v) 1 s2 = s2 := by unfold XEdRe_readFigureEdit_j20; rw [if_neg (by decide)]
  clear g1 g2 g3 g4 g5 g6
  rw [if_pos ⟨hv, hu2⟩] at hx
  simp only [hx, hj, p_peek f6 hn (by omega), p_here f7 hn (by omega), show (v < 12 ∧ ¬ t3.2.1 64 v = -1) from ⟨hv, hu⟩, if_true, not_false_eq_true, and_self, z_10, if_false]
  obtain ⟨⟨p, l, t, w, hh, o1, o2, o3, o4, o5, o6, o7, o8, o9, o10⟩, r1, r2, r3, r4⟩ := hRv.2.resolve_left (by
    simp only [vM, Nat.mul_zero, Nat.zero_add]
    exact hu)
  have x28 : s2.2.1 28 v = nI l := r1.trans o7
  have x29 : s2.2.1 29 v = nI t := r2.trans o8
  have x30 : s2.2.1 30 v = nI w := r3.trans o9
  have x31 : s2.2.1 31 v = nI hh := r4.trans o10
  have y12 : t3.2.1 64 (12 + v) = nI l := o7
  have y24 : t3.2.1 64 (24 + v) = nI t := o8
  have y36 : t3.2.1 64 (36 + v) = nI w := o9
  have y48 : t3.2.1 64 (48 + v) = nI hh := o10
  -- a move's end
  have mv : ∀ (l2 t2 : Nat) (uX uM : ax_S), b < n → l2 + w ≤ 16 → t2 + hh ≤ 12 → (∀ c j, ¬ ((c = 28 ∨ c = 29) ∧ j = v) → uX.2.1 c j = s2.2.1 c j) → uX.2.1 28 v = nI l2 → uX.2.1 29 v = nI t2 → (∀ c j, ¬ (c = 64 ∧ (j = 12 + v ∨ j = 24 + v)) → uM.2.1 c j = t3.2.1 c j) → uM.2.1 64 (12 + v) = nI l2 → uM.2.1 64 (24 + v) = nI t2 →
      t_P2 sX (XTa_step uX) ∧ t_Q2 sM (ax_sI uM 63 6 (t3.2.1 63 6 + 1)) ∧ ∃ b, a < b ∧ b ≤ n ∧ t_X B n b (XTa_step uX) ∧ t_M B n b (ax_sI uM 63 6 (t3.2.1 63 6 + 1)) ∧ (ax_sI uM 63 6 (t3.2.1 63 6 + 1)).2.1 63 28 = sM.2.1 63 28 ∧ t_R (XTa_step uX) (ax_sI uM 63 6 (t3.2.1 63 6 + 1)) ∧ t_W (XTa_step uX) (ax_sI uM 63 6 (t3.2.1 63 6 + 1)) := fun l2 t2 uX uM hb hl2 ht2 dX dX1 dX2 dM dM1 dM2 => by
    obtain ⟨z1, z2, z3, z4⟩ := t_mv hv f6 f7 hR3 hW3 ⟨o1, o2, o3, o4, o5⟩ ⟨o6, o7, o8, o9, o10⟩ hl2 ht2 dX dX1 dX2 dM dM1 dM2
    have e6 : t3.2.1 63 6 = uM.2.1 63 6 := (dM _ _ (by omega)).symm
    rw [e6]
    have q1 := X_st z1
    have q2 := M_st z2
    refine ⟨P2_tr (K_P2 k1) (P2_tr (fun c j _ d => dX c j (by omega)) (K_P2 q1.2)), Q2_tr (N_Q2 nn) (Q2_tr (fun c j _ d => dM c j (by omega)) (N_Q2 q2.2)), ?_⟩
    exact ⟨b + 1, by omega, by omega, q1.1, q2.1, by rw [q2.2 _ _ (by omega), dM _ _ (by omega)]; exact h28, R_KN z3 (fun c j _ _ => q1.2.2 c j (by omega)) (fun j _ => q2.2 64 j (by omega)), W_KN z4 (fun j => q1.2.2 32 j (by omega)) (fun j _ _ => q2.2 64 j (by omega))⟩
  have nb : ∀ c : Int32, t_ch B n b = c → ¬ c = -1 → b < n := fun c e e2 => by
    by_cases d : b < n
    · exact d
    · unfold t_ch at e; rw [if_neg d] at e; exact absurd e.symm e2
  unfold XEdRe_readFigureEdit_j39 XFi_takeOut_26
  by_cases c0 : t_ch B n b = 33
  · have hb := nb _ c0 (by decide)
    simp only [c0, if_true]
    unfold XFi_tell_26
    simp (disch := omega) only [q_12, z_0add, z_cl, z_lt0, z_le, z_nle, if_false, or_self]
    have q1 : t_X B n b (ax_sI s2 27 v (-1)) := ⟨by rw [r_I (by omega)]; exact f6.1, by rw [r_I (by omega)]; exact f6.2.1, by rw [r_I (by omega)]; exact f6.2.2.1, fun q hq => by rw [r_I (by omega)]; exact f6.2.2.2 q hq⟩
    have q2 : t_M B n b (ax_sI t3 64 v (-1)) := ⟨by rw [r_I (by omega)]; exact f7.1, by rw [r_I (by omega)]; exact f7.2.1, fun q => by rw [r_I (by omega)]; exact f7.2.2 q⟩
    have q3 := X_st q1
    have q4 := M_st q2
    rw [show (ax_sI t3 64 v (-1)).2.1 63 6 = t3.2.1 63 6 by rw [r_I (by omega)]] at q4
    refine ⟨_, 1, _, rfl, rfl, P2_tr (K_P2 k1) (P2_tr (fun c j _ d => by rw [r_I (by omega)]) (K_P2 q3.2)), Q2_tr (N_Q2 nn) (Q2_tr (fun c j _ d => r_one c j (by omega)) (N_Q2 q4.2)), Or.inl ⟨rfl, b + 1, by omega, by omega, q3.1, q4.1, by rw [q4.2 _ _ (by omega), r_I (by omega)]; exact h28, ?_, ?_⟩⟩
    · refine R_KN (s := ax_sI s2 27 v (-1)) (t := ax_sI t3 64 v (-1)) ?_ (fun c j _ _ => q3.2.2 c j (by omega)) (fun j _ => q4.2 64 j (by omega))
      refine t_Rv hR3 v (fun c j _ _ hj => r_one c j (by omega)) (fun q i hq hi hiv => r_one _ _ (by omega)) ⟨?_, Or.inl ?_⟩
      · simp only [vX, vM, Nat.mul_zero, Nat.zero_add, Nat.add_zero]
        rw [r_Ie, r_u, r_Ie, r_u]
      · simp only [vM, Nat.mul_zero, Nat.zero_add]
        rw [r_Ie, r_u]
    · refine W_KN hW3 (fun j => ?_) (fun j _ _ => ?_)
      · rw [q3.2.2 32 j (by omega), r_I (by omega)]
      · rw [q4.2 64 j (by omega), r_one 64 j (by omega)]
  by_cases c1 : t_ch B n b = 60
  · have hb := nb _ c1 (by decide)
    obtain ⟨uX, u1, u2, u3, u4⟩ := X_mv2 v hv (-1) 0 s2 l t (l - 1) t hu2 x28 x29 (by
      by_cases hl : l = 0
      · subst hl
        exact Or.inl ⟨onp_neg _ _ _ _ _ (by decide), rfl, rfl⟩
      · rw [x30, x31, z_m1 (by omega), Int32.add_zero, onp_eq _ _ _ _ _ (by omega) (by omega) (by omega) (by omega) (by omega) (by omega), if_pos (by omega)]
        exact Or.inr ⟨rfl, rfl, rfl⟩)
    simp only [c1, if_true, show ((60 : Int32) = 33) = False from eq_false (by decide), if_false, u1]
    simp (disch := omega) only [q_12, q_24, q_36, q_48, nI_add, z_cl, z_lt0, z_nle, if_false, or_self]
    rw [y12, m_max _ (by omega)]
    obtain ⟨v1, v2, v3⟩ := mv (l - 1) t uX (ax_sI t3 64 (12 + v) (nI (l - 1))) hb (by  omega) (by  omega) u2 u3 u4 (fun c j d => r_one c j (by omega)) (by rw [r_Ie, r_u]) (by rw [r_one _ _ (by omega)]; exact y24)
    exact ⟨_, 1, _, rfl, rfl, v1, v2, Or.inl ⟨rfl, v3⟩⟩
  by_cases c2 : t_ch B n b = 62
  · have hb := nb _ c2 (by decide)
    obtain ⟨uX, u1, u2, u3, u4⟩ := X_mv2 v hv 1 0 s2 l t (min (16 - w) (l + 1)) t hu2 x28 x29 (by
      rw [x30, x31, z_1, Int32.add_zero, onp_eq _ _ _ _ _ (by omega) (by omega) (by omega) (by omega) (by omega) (by omega)]
      by_cases hl : l + 1 + w ≤ 16
      · rw [if_pos (by omega), Nat.min_eq_right (by omega)]
        exact Or.inr ⟨rfl, rfl, rfl⟩
      · rw [if_neg (by omega), Nat.min_eq_left (by omega)]
        exact Or.inl ⟨rfl, by omega, rfl⟩)
    simp only [c2, if_true, show ((62 : Int32) = 33) = False from eq_false (by decide), show ((62 : Int32) = 60) = False from eq_false (by decide), if_false, u1]
    simp (disch := omega) only [q_12, q_24, q_36, q_48, nI_add, z_cl, z_lt0, z_nle, if_false, or_self]
    rw [y12, y36, z_1, q_16, z_sub (by omega), m_min _ _ (by omega) (by omega)]
    obtain ⟨v1, v2, v3⟩ := mv (min (16 - w) (l + 1)) t uX (ax_sI t3 64 (12 + v) (nI (min (16 - w) (l + 1)))) hb (by  omega) (by  omega) u2 u3 u4 (fun c j d => r_one c j (by omega)) (by rw [r_Ie, r_u]) (by rw [r_one _ _ (by omega)]; exact y24)
    exact ⟨_, 1, _, rfl, rfl, v1, v2, Or.inl ⟨rfl, v3⟩⟩
  by_cases c3 : t_ch B n b = 94
  · have hb := nb _ c3 (by decide)
    obtain ⟨uX, u1, u2, u3, u4⟩ := X_mv2 v hv 0 (-1) s2 l t l (t - 1) hu2 x28 x29 (by
      by_cases hl : t = 0
      · subst hl
        exact Or.inl ⟨onp_neg2 _ _ _ _ _ (by decide), rfl, rfl⟩
      · rw [x30, x31, z_m1 (by omega), Int32.add_zero, onp_eq _ _ _ _ _ (by omega) (by omega) (by omega) (by omega) (by omega) (by omega), if_pos (by omega)]
        exact Or.inr ⟨rfl, rfl, rfl⟩)
    simp only [c3, if_true, show ((94 : Int32) = 33) = False from eq_false (by decide), show ((94 : Int32) = 60) = False from eq_false (by decide), show ((94 : Int32) = 62) = False from eq_false (by decide), if_false, u1]
    simp (disch := omega) only [q_12, q_24, q_36, q_48, nI_add, z_cl, z_lt0, z_nle, if_false, or_self]
    rw [y24, m_max _ (by omega)]
    obtain ⟨v1, v2, v3⟩ := mv l (t - 1) uX (ax_sI t3 64 (24 + v) (nI (t - 1))) hb (by  omega) (by  omega) u2 u3 u4 (fun c j d => r_one c j (by omega)) (by rw [r_one _ _ (by omega)]; exact y12) (by rw [r_Ie, r_u])
    exact ⟨_, 1, _, rfl, rfl, v1, v2, Or.inl ⟨rfl, v3⟩⟩
  by_cases c4 : t_ch B n b = 95
  · have hb := nb _ c4 (by decide)
    obtain ⟨uX, u1, u2, u3, u4⟩ := X_mv2 v hv 0 1 s2 l t l (min (12 - hh) (t + 1)) hu2 x28 x29 (by
      rw [x30, x31, z_1, Int32.add_zero, onp_eq _ _ _ _ _ (by omega) (by omega) (by omega) (by omega) (by omega) (by omega)]
      by_cases hl : t + 1 + hh ≤ 12
      · rw [if_pos (by omega), Nat.min_eq_right (by omega)]
        exact Or.inr ⟨rfl, rfl, rfl⟩
      · rw [if_neg (by omega), Nat.min_eq_left (by omega)]
        exact Or.inl ⟨rfl, rfl, by omega⟩)
    simp only [c4, if_true, show ((95 : Int32) = 33) = False from eq_false (by decide), show ((95 : Int32) = 60) = False from eq_false (by decide), show ((95 : Int32) = 62) = False from eq_false (by decide), show ((95 : Int32) = 94) = False from eq_false (by decide), if_false, u1]
    simp (disch := omega) only [q_12, q_24, q_36, q_48, nI_add, z_cl, z_lt0, z_nle, if_false, or_self]
    rw [y24, y48, z_1, z_sub (by omega), m_min _ _ (by omega) (by omega)]
    obtain ⟨v1, v2, v3⟩ := mv l (min (12 - hh) (t + 1)) uX (ax_sI t3 64 (24 + v) (nI (min (12 - hh) (t + 1)))) hb (by  omega) (by  omega) u2 u3 u4 (fun c j d => r_one c j (by omega)) (by rw [r_one _ _ (by omega)]; exact y12) (by rw [r_Ie, r_u])
    exact ⟨_, 1, _, rfl, rfl, v1, v2, Or.inl ⟨rfl, v3⟩⟩
  simp only [c0, c1, c2, c3, c4, if_false]
  obtain ⟨w1, w2, w3⟩ := M_wr 1 b t3
  refine ⟨_, 0, (M_wrongAt (nI 1) (nI b) t3).2, rfl, by rw [f7.2.1]; rfl, P2_tr (K_P2 k1) (P2_tr (K_P2 (K_ref _ _ _)) (K_P2 (K_3 _ _))), N_Q2 (N_tr nn w3), Or.inr ⟨rfl, 1, b, by omega, by omega, by omega, ?_, w2⟩⟩
  have hrf : (XTa_refuse 1 s2).2.1 1 5 = t_fc 1 b := by
    unfold XTa_refuse
    rw [f6.2.1]
    exact X_rf f6 1 b
  have := (K_3 (XTa_refuse 1 s2) ((XTa_refuse 1 s2).2.1 1 3 + 1)).1 (by rw [hrf]; exact (t_fc_ne (by omega) (by omega) (by omega)).1)
  exact this.trans hrf
