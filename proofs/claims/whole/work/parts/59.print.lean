/-! print: a line of both readers -/
def t_P (s t : ax_S) : Prop := ∀ c j, ¬ (c = 1 ∧ (j = 3 ∨ j = 4 ∨ j = 5)) → ¬ (27 ≤ c ∧ c ≤ 31) → t.2.1 c j = s.2.1 c j
def t_Q (s t : ax_S) : Prop := ∀ c j, ¬ (c = 63 ∧ (j = 6 ∨ j = 8 ∨ j = 9 ∨ j = 28)) → ¬ (c = 64 ∧ j < 60) → t.2.1 c j = s.2.1 c j
def t_R (s t : ax_S) : Prop := v_R (vX s.2.1 27) (vM t.2.1 64)
theorem K_P {s t : ax_S} (h : t_K s t) : t_P s t := fun c j e _ => h.2 c j e
theorem N_Q {s t : ax_S} (h : t_N s t) : t_Q s t := fun c j e _ => h c j (by omega)
theorem P_tr {s t u : ax_S} (h : t_P s t) (h2 : t_P t u) : t_P s u := fun c j e f => by rw [h2 c j e f, h c j e f]
theorem Q_tr {s t u : ax_S} (h : t_Q s t) (h2 : t_Q t u) : t_Q s u := fun c j e f => by rw [h2 c j e f, h c j e f]
theorem t_let (B : Nat → Nat) (n a : Nat) (hB : ∀ k, B k < 256) (s t : ax_S) : (XLiRe_isPersonLetter (t_ch B n a) s = 0 ∧ M_isPerson (t_ch B n a - 97) t = 0) ∨ (XLiRe_isPersonLetter (t_ch B n a) s = 1 ∧ M_isPerson (t_ch B n a - 97) t = 1 ∧ ∃ p, p < 16 ∧ a < n ∧ t_ch B n a = nI (97 + p)) := by
  have hb := hB a
  unfold t_ch
  by_cases c : a < n
  · rw [if_pos c]
    unfold XLiRe_isPersonLetter M_isPerson M_in
    by_cases h1 : B a < 97
    · rw [if_pos (by rw [q_97, z_lt (by omega) (by omega)]; exact h1), if_pos (show nI (B a) - 97 < 0 from pk_sneg (a := B a) (b := 97) (by omega) (by omega))]
      exact Or.inl ⟨rfl, rfl⟩
    · rw [if_neg (by rw [q_97, z_lt (by omega) (by omega)]; exact h1), q_97, z_sub (by omega), if_neg (nI_pos (by omega)), show (112 : Int32) = nI 112 from rfl, q_15]
      by_cases h2 : 112 < B a
      · rw [if_pos (by rw [z_lt (by omega) (by omega)]; exact h2), if_pos (by rw [z_lt (by omega) (by omega)]; omega)]
        exact Or.inl ⟨rfl, rfl⟩
      · rw [if_neg (by rw [z_lt (by omega) (by omega)]; exact h2), if_neg (by rw [z_lt (by omega) (by omega)]; omega)]
        exact Or.inr ⟨rfl, rfl, B a - 97, by omega, c, by rw [show 97 + (B a - 97) = B a by omega]⟩
  · rw [if_neg c]
    exact Or.inl ⟨by unfold XLiRe_isPersonLetter; rw [if_pos (by decide)], by unfold M_isPerson M_in; rw [if_pos (by decide)]⟩
theorem t_flt {s u : ax_S} (h : t_F s u) : XTa_isFaulty s = 1 := by
  obtain ⟨q, p, h1, h2, h3, h4, -⟩ := h
  unfold XTa_isFaulty
  rw [if_neg (by rw [h4]; exact (t_fc_ne h1 h2 h3).1)]
theorem t_ok {B : Nat → Nat} {n a : Nat} {s : ax_S} (h : t_X B n a s) : XTa_isFaulty s = 0 := by
  unfold XTa_isFaulty; rw [if_pos h.2.2.1]
theorem t_pfig {B : Nat → Nat} {n a k : Nat} {sX sM : ax_S} (h : t_X B n a sX) (g : t_M B n a sM) (hR : t_R sX sM) (hB : ∀ k, B k < 256) (hn : n ≤ 260) (ha : a ≤ n) (hk : k ≤ 12) (h52 : sX.2.1 52 1 = nI 12) (h28 : sM.2.1 63 28 = nI k) :
    ∃ tX y tM, XLiRe_readLines_52_j29 (nI k) (XPrRe_canBegin (t_ch B n a) sX) sX = some tX ∧ M_readsFigure sM = some (y, tM) ∧ t_P sX tX ∧ t_Q sM tM ∧ ((y = 1 ∧ k < 12 ∧ ∃ b, a < b ∧ b ≤ n ∧ t_X B n b tX ∧ t_M B n b tM ∧ tM.2.1 63 28 = nI (k + 1) ∧ t_R tX tM) ∨ (y = 0 ∧ t_F tX tM)) := by
  unfold XLiRe_readLines_52_j29 XPrRe_canBegin M_readsFigure XTa_refuse
  rw [p_here g hn (by omega), h.2.1, g.2.1, h52, h28]
  rcases t_let B n a hB sX sM with ⟨l1, l2⟩ | ⟨l1, l2, p, hp, han, hch⟩
  · obtain ⟨w1, w2, w3⟩ := M_wr 1 a sM
    refine ⟨XTa_refuseAt (nI 1) (nI a) sX, 0, (M_wrongAt (nI 1) (nI a) sM).2, by rw [l1]; rfl, by simp only [l2, if_true]; rfl, K_P (K_ref _ _ _), N_Q w3, Or.inr ⟨rfl, 1, a, by omega, by omega, by omega, X_rf h _ _, w2⟩⟩
  · rw [l1]
    simp only [l2, z_10, if_false]
    by_cases hk12 : k = 12
    · obtain ⟨w1, w2, w3⟩ := M_wr 4 a sM
      subst hk12
      refine ⟨XTa_refuseAt (nI 4) (nI a) sX, 0, (M_wrongAt (nI 4) (nI a) sM).2, by rw [if_pos rfl]; rfl, by rw [if_pos (show nI 12 = 12 from rfl)]; rfl, K_P (K_ref _ _ _), N_Q w3, Or.inr ⟨rfl, 4, a, by omega, by omega, by omega, X_rf h _ _, w2⟩⟩
    · have c12 : ¬ nI k = nI 12 := by rw [z_eq (by omega) (by omega)]; exact hk12
      have c12' : ¬ nI k = 12 := c12
      simp only [if_neg c12, if_neg c12']
      unfold XPrRe_readLine
      rw [p_peek h hn (by omega), hch]
      have gs := M_st g
      rw [g.2.1, z_1] at gs
      rw [show nI a + (1 : Int32) = nI (a + 1) from z_1 a]
      obtain ⟨x1, s3, w4, s5, y1, t3, e1, e2, e3, k1, n1, r1⟩ := t_winT (X_st h).1 gs.1 hB hn (by omega) 0 15 44 (by omega) (by omega) (by omega)
      have e1 : XPrRe_readWithin 0 15 (XTa_step sX) = some (x1, s3) := e1
      have e2 : XTa_take 44 s3 = some (w4, s5) := e2
      have e3 : M_readsWithin 0 15 44 (ax_sI sM 63 6 (nI (a + 1))) = some (y1, t3) := e3
      have kk1 := K_tr (X_st h).2 k1
      have nn1 := N_tr gs.2 n1
      simp only [e1, e2, e3]
      rcases r1 with ⟨rfl, x, b1, hx1, -, hx2, hb1, hb1', rfl, hx, hX1, hM1⟩ | ⟨rfl, hF⟩
      rotate_left
      · obtain ⟨v6, s7, f1, m1⟩ := a_within 0 11 s5
        obtain ⟨v8, s9, f2, m2⟩ := a_take 58 s7
        obtain ⟨v10, s11, f3, m3⟩ := a_within 1 (16 - x1) s9
        obtain ⟨v12, s13, f4, m4⟩ := a_take 120 s11
        obtain ⟨v14, s15, f5, m5⟩ := a_within 1 (12 - v6) s13
        have mm := K_tr m1 (K_tr m2 (K_tr m3 (K_tr m4 m5)))
        have hF2 := F_K hF mm
        simp only [f1, f2, f3, f4, f5, t_flt hF2, z_10, if_false, if_true]
        exact ⟨s15, 0, t3, rfl, rfl, K_P (K_tr kk1 mm), N_Q nn1, Or.inr ⟨rfl, hF2⟩⟩
      simp only [z_10, if_false]
      obtain ⟨x2, s7, w8, s9, y2, t5, f1, f2, f3, k2, n2, r2⟩ := t_winT hX1 hM1 hB hn hb1' 0 11 58 (by omega) (by omega) (by omega)
      have f1 : XPrRe_readWithin 0 11 s5 = some (x2, s7) := f1
      have f2 : XTa_take 58 s7 = some (w8, s9) := f2
      have f3 : M_readsWithin 0 11 58 t3 = some (y2, t5) := f3
      have kk2 := K_tr kk1 k2
      have nn2 := N_tr nn1 n2
      simp only [f1, f2, f3]
      rcases r2 with ⟨rfl, y, b2, hy1, -, hy2, hb2, hb2', rfl, hy, hX2, hM2⟩ | ⟨rfl, hF⟩
      rotate_left
      · obtain ⟨v10, s11, g3, m3⟩ := a_within 1 (16 - nI x) s9
        obtain ⟨v12, s13, g4, m4⟩ := a_take 120 s11
        obtain ⟨v14, s15, g5, m5⟩ := a_within 1 (12 - x2) s13
        have mm := K_tr m3 (K_tr m4 m5)
        have hF2 := F_K hF mm
        simp only [g3, g4, g5, t_flt hF2, z_10, if_false, if_true]
        exact ⟨s15, 0, t5, rfl, rfl, K_P (K_tr kk2 mm), N_Q nn2, Or.inr ⟨rfl, hF2⟩⟩
      simp only [z_10, if_false, hx, hy]
      have e16 : (16 : Int32) - nI x = nI (16 - x) := by rw [q_16, z_sub (by omega)]
      have e12 : (12 : Int32) - nI y = nI (12 - y) := by rw [q_12, z_sub (by omega)]
      simp only [e16, e12]
      obtain ⟨x3, s11, w12, s13, y3, t7, g1, g2, g3, k3, n3, r3⟩ := t_winT hX2 hM2 hB hn hb2' 1 (16 - x) 120 (by omega) (by omega) (by omega)
      have g1 : XPrRe_readWithin 1 (nI (16 - x)) s9 = some (x3, s11) := g1
      have g2 : XTa_take 120 s11 = some (w12, s13) := g2
      have g3 : M_readsWithin 1 (nI (16 - x)) 120 t5 = some (y3, t7) := g3
      have kk3 := K_tr kk2 k3
      have nn3 := N_tr nn2 n3
      simp only [g1, g2, g3]
      rcases r3 with ⟨rfl, w, b3, hw1, hw0, hw2, hb3, hb3', rfl, hw, hX3, hM3⟩ | ⟨rfl, hF⟩
      rotate_left
      · obtain ⟨v14, s15, g5, m5⟩ := a_within 1 (nI (12 - y)) s13
        have hF2 := F_K hF m5
        simp only [g5, t_flt hF2, z_10, if_false, if_true]
        exact ⟨s15, 0, t7, rfl, rfl, K_P (K_tr kk3 m5), N_Q nn3, Or.inr ⟨rfl, hF2⟩⟩
      simp only [z_10, if_false, hw]
      obtain ⟨x4, s15, i1, k4, r4⟩ := t_win hX3 hM3 hB hn hb3' 1 (12 - y) (by omega) (by omega)
      have i1 : XPrRe_readWithin 1 (nI (12 - y)) s13 = some (x4, s15) := i1
      have kk4 := K_tr kk3 k4
      simp only [i1]
      rcases r4 with ⟨v, b4, t9, hv1, hv0, hv2, hb4, hb4', rfl, hX4, hM4, n4, hv, i2⟩ | ⟨t9, i2, n4, hF⟩
      rotate_left
      · have i2 : M_readsWithin 1 (nI (12 - y)) (-1) t7 = some (0, t9) := i2 (-1)
        simp only [i2, t_flt hF, z_10, if_false, if_true]
        exact ⟨s15, 0, t9, rfl, rfl, K_P kk4, N_Q (N_tr nn3 n4), Or.inr ⟨rfl, hF⟩⟩
      have i2 : M_readsWithin 1 (nI (12 - y)) (-1) t7 = some (1, t9) := by
        have := i2 (-1)
        rw [if_pos rfl] at this
        exact this
      have nn4 := N_tr nn3 n4
      have h9 : t9.2.1 63 28 = nI k := by rw [nn4 _ _ (by omega)]; exact h28
      simp only [i2, t_ok hX4, z_10, if_false, if_true, h9, hv]
      have e97 : nI (97 + p) - 97 = nI p := by rw [q_97, z_sub (by omega), show 97 + p - 97 = p by omega]
      unfold XFi_tell_26 XFi_place_26
      simp only [e97]
      simp (disch := omega) only [q_12, q_24, q_36, q_48, z_0add, nI_add, z_cl, z_lt0, z_le, z_nle, z_1, or_self, if_false]
      refine ⟨_, 1, _, rfl, rfl, ?_, ?_, Or.inl ⟨rfl, by omega, b4, by omega, hb4', ?_, ?_, ?_, ?_⟩⟩
      · refine P_tr (K_P kk4) fun c j d1 d2 => ?_
        simp (disch := omega) only [r_I]
      · refine Q_tr (N_Q nn4) fun c j d1 d2 => ?_
        rw [r_one c j (by omega), r_two c j (by omega) (by omega), r_two c j (by omega) (by omega), r_one c j (by omega)]
      · refine ⟨?_, ?_, ?_, fun q hq => ?_⟩
        all_goals simp (disch := omega) only [r_I]
        · exact hX4.1
        · exact hX4.2.1
        · exact hX4.2.2.1
        · exact hX4.2.2.2 q hq
      · refine ⟨?_, ?_, fun q => ?_⟩
        · rw [r_one 63 7 (by omega)]; simp (disch := omega) only [r_I]; exact hM4.1
        · rw [r_one 63 6 (by omega)]; simp (disch := omega) only [r_I]; exact hM4.2.1
        · simp (disch := omega) only [r_I]; exact hM4.2.2 q
      · rw [r_Ie, r_u]
      · intro i hi
        have hRi := hR i hi
        have fX : ∀ c j, 27 ≤ c → c ≤ 31 → s15.2.1 c j = sX.2.1 c j := fun c j q1 q2 => kk4.2 c j (by omega)
        have fM : ∀ j, t9.2.1 64 j = sM.2.1 64 j := fun j => nn4 64 j (by omega)
        by_cases hik : i = k
        · subst hik
          simp (disch := omega) only [v_ok, vX, vM, r_I, r_Ie, r_u, r_un, Nat.mul_zero, Nat.zero_add, Nat.mul_one, Nat.reduceMul, Nat.reduceAdd]
          exact ⟨trivial, Or.inr ⟨⟨p, x, y, w, v, hp, by omega, by omega, by omega, by omega, rfl, rfl, rfl, rfl, rfl⟩, by trivial, by trivial, by trivial, by trivial⟩⟩
        · simp (disch := omega) only [v_ok, vX, vM, r_I, r_Ie, r_un, Nat.mul_zero, Nat.zero_add, Nat.mul_one, Nat.reduceMul, Nat.reduceAdd, fX, fM] at hRi ⊢
          exact hRi
