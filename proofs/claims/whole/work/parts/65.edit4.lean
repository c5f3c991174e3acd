/-! edits: a line, the lines -/
theorem t_efig {B : Nat → Nat} {n a k : Nat} {sX sM : ax_S} (h : t_X B n a sX) (g : t_M B n a sM) (hR : t_R sX sM) (hW : t_W sX sM) (hB : ∀ k, B k < 256) (hn : n ≤ 260) (ha : a ≤ n) (hk : k ≤ 20) (h53 : sX.2.1 53 1 = nI 20) (h28 : sM.2.1 63 28 = nI k) :
    ∃ tX y tM, XLiRe_readLines_53_j29 (nI k) (XEdRe_canBegin (t_ch B n a) sX) sX = some tX ∧ M_readsEdit sM = some (y, tM) ∧ t_P2 sX tX ∧ t_Q2 sM tM ∧ ((y = 1 ∧ k < 20 ∧ ∃ b, a < b ∧ b ≤ n ∧ t_X B n b tX ∧ t_M B n b tM ∧ tM.2.1 63 28 = nI (k + 1) ∧ t_R tX tM ∧ t_W tX tM) ∨ (y = 0 ∧ t_F tX tM)) := by
  unfold XLiRe_readLines_53_j29 XEdRe_canBegin M_readsEdit XTa_refuse
  rw [p_here g hn (by omega), h.2.1, g.2.1, h53, h28]
  have g0 : t_M B n a (ax_sI sM 63 28 (nI (k + 1))) := ⟨by rw [r_one _ _ (by omega)]; exact g.1, by rw [r_one _ _ (by omega)]; exact g.2.1, fun q => by rw [r_I (by omega)]; exact g.2.2 q⟩
  have hQ0 : t_Q2 sM (ax_sI sM 63 28 (nI (k + 1))) := fun c j d _ => r_one c j (by omega)
  have hR0 : t_R sX (ax_sI sM 63 28 (nI (k + 1))) := R_KN hR (fun _ _ _ _ => rfl) (fun j _ => by rw [r_I (by omega)])
  have hW0 : t_W sX (ax_sI sM 63 28 (nI (k + 1))) := W_KN hW (fun _ => rfl) (fun j _ _ => by rw [r_I (by omega)])
  have c80 : (ax_sI sM 63 28 (nI (k + 1))).2.1 63 28 = nI (k + 1) := by rw [r_Ie, r_u]
  by_cases c35 : t_ch B n a = 35
  · have han : a < n := by
      by_cases d : a < n
      · exact d
      · unfold t_ch at c35; rw [if_neg d] at c35; exact absurd c35 (by decide)
    simp only [c35, if_true, z_10, if_false]
    by_cases hk20 : k = 20
    · obtain ⟨w1, w2, w3⟩ := M_wr 4 a sM
      subst hk20
      refine ⟨XTa_refuseAt (nI 4) (nI a) sX, 0, (M_wrongAt (nI 4) (nI a) sM).2, by rw [if_pos rfl]; rfl, by rw [if_pos (show nI 20 = 20 from rfl)]; rfl, K_P2 (K_ref _ _ _), N_Q2 w3, Or.inr ⟨rfl, 4, a, by omega, by omega, by omega, X_rf h _ _, w2⟩⟩
    · have c20 : ¬ nI k = nI 20 := by rw [z_eq (by omega) (by omega)]; exact hk20
      have c20' : ¬ nI k = 20 := c20
      simp only [if_neg c20, if_neg c20']
      unfold XEdRe_readLine
      rw [p_peek h hn (by omega), c35, z_1]
      obtain ⟨tX, y, tM, e1, e2, e3, e4, e5⟩ := t_emove (X_st h).1 g0 (R_KN hR0 (fun c j _ _ => (X_st h).2.2 c j (by omega)) (fun _ _ => rfl)) (W_KN hW0 (fun j => (X_st h).2.2 32 j (by omega)) (fun _ _ _ => rfl)) hB hn han
      simp only [if_true, e1, e2]
      refine ⟨tX, y, tM, rfl, rfl, P2_tr (K_P2 (X_st h).2) e3, Q2_tr hQ0 e4, ?_⟩
      rcases e5 with ⟨f1, b, f2, f3, f4, f5, f6, f7, f8⟩ | e5
      · exact Or.inl ⟨f1, by omega, b, f2, f3, f4, f5, by rw [f6]; exact c80, f7, f8⟩
      · exact Or.inr e5
  · simp only [c35, if_false]
    rcases t_let B n a hB sX sM with ⟨l1, l2⟩ | ⟨l1, l2, p, hp, han, hch⟩
    · obtain ⟨w1, w2, w3⟩ := M_wr 1 a sM
      refine ⟨XTa_refuseAt (nI 1) (nI a) sX, 0, (M_wrongAt (nI 1) (nI a) sM).2, by rw [l1]; rfl, by simp only [l2, if_true]; rfl, K_P2 (K_ref _ _ _), N_Q2 w3, Or.inr ⟨rfl, 1, a, by omega, by omega, by omega, X_rf h _ _, w2⟩⟩
    · rw [l1]
      simp only [l2, z_10, if_false]
      by_cases hk20 : k = 20
      · obtain ⟨w1, w2, w3⟩ := M_wr 4 a sM
        subst hk20
        refine ⟨XTa_refuseAt (nI 4) (nI a) sX, 0, (M_wrongAt (nI 4) (nI a) sM).2, by rw [if_pos rfl]; rfl, by rw [if_pos (show nI 20 = 20 from rfl)]; rfl, K_P2 (K_ref _ _ _), N_Q2 w3, Or.inr ⟨rfl, 4, a, by omega, by omega, by omega, X_rf h _ _, w2⟩⟩
      · have c20 : ¬ nI k = nI 20 := by rw [z_eq (by omega) (by omega)]; exact hk20
        have c20' : ¬ nI k = 20 := c20
        simp only [if_neg c20, if_neg c20']
        unfold XEdRe_readLine
        rw [p_peek h hn (by omega), z_1]
        have e97 : t_ch B n a - 97 = nI p := by rw [hch, q_97, z_sub (by omega), show 97 + p - 97 = p by omega]
        obtain ⟨tX, y, tM, e1, e2, e3, e4, e5⟩ := t_epain hp (X_st h).1 g0 (R_KN hR0 (fun c j _ _ => (X_st h).2.2 c j (by omega)) (fun _ _ => rfl)) (W_KN hW0 (fun j => (X_st h).2.2 32 j (by omega)) (fun _ _ _ => rfl)) hB hn han
        simp only [c35, if_false, e97, e1, e2]
        refine ⟨tX, y, tM, rfl, rfl, P2_tr (K_P2 (X_st h).2) e3, Q2_tr hQ0 e4, ?_⟩
        rcases e5 with ⟨f1, b, f2, f3, f4, f5, f6, f7, f8⟩ | e5
        · exact Or.inl ⟨f1, by omega, b, f2, f3, f4, f5, by rw [f6]; exact c80, f7, f8⟩
        · exact Or.inr e5
theorem t_eloop {B : Nat → Nat} {n : Nat} (hB : ∀ k, B k < 256) (hn : n ≤ 260) : ∀ d k a sX sM, k + d = 20 → t_X B n a sX → t_M B n a sM → t_R sX sM → t_W sX sM → a ≤ n → sX.2.1 53 1 = nI 20 → sM.2.1 63 28 = nI k → ∀ m1 m2, d + 2 ≤ m1 → d + 2 ≤ m2 →
    ∃ r tX y0 u y tM, XLiRe_readLines_53_l10 m1 (nI k) sX = some (r, tX) ∧ M_readsEdit sM = some (y0, u) ∧ M_edits_l46 m2 y0 u = some (y, tM) ∧ (y0 = 0 ∨ y0 = 1) ∧ t_P2 sX tX ∧ t_Q2 sM tM ∧
      ((y = 1 ∧ ∃ K, 1 ≤ K ∧ K ≤ 20 ∧ r = nI K ∧ tM.2.1 63 28 = nI K ∧ t_R tX tM ∧ t_W tX tM) ∨ (y = 0 ∧ ∃ q p, 1 ≤ q ∧ q ≤ 9 ∧ p ≤ 300 ∧ r = t_fc q p ∧ tM.2.1 63 8 = t_fc q p)) := by
  intro d
  induction d with
  | zero =>
    intro k a sX sM hkd h g hR hW ha h53 h28 m1 m2 hm1 hm2
    obtain ⟨tX, y, tM, e1, e2, pX, pM, r⟩ := t_efig h g hR hW hB hn ha (by omega) h53 h28
    rcases r with ⟨-, hk, -⟩ | ⟨rfl, hF⟩
    · omega
    · obtain ⟨m1, rfl⟩ : ∃ m, m1 = m + 1 := ⟨m1 - 1, by omega⟩
      obtain ⟨m2, rfl⟩ : ∃ m, m2 = m + 1 := ⟨m2 - 1, by omega⟩
      have c0 : ¬ nI 20 < nI k := by rw [z_lt (by omega) (by omega)]; omega
      refine ⟨XTa_fault tX, tX, 0, tM, 0, tM, ?_, e2, by rw [M_edits_l46]; rfl, Or.inl rfl, pX, pM, Or.inr ⟨rfl, hF⟩⟩
      rw [XLiRe_readLines_53_l10, h53, if_neg c0, p_peek h hn (by omega)]
      simp only [e1, t_flt hF, z_10, if_false]
  | succ d ih =>
    intro k a sX sM hkd h g hR hW ha h53 h28 m1 m2 hm1 hm2
    obtain ⟨tX, y, tM, e1, e2, pX, pM, r⟩ := t_efig h g hR hW hB hn ha (by omega) h53 h28
    obtain ⟨m1, rfl⟩ : ∃ m, m1 = m + 1 := ⟨m1 - 1, by omega⟩
    obtain ⟨m2, rfl⟩ : ∃ m, m2 = m + 1 := ⟨m2 - 1, by omega⟩
    have c0 : ¬ nI 20 < nI k := by rw [z_lt (by omega) (by omega)]; omega
    rcases r with ⟨rfl, hk, b, hab, hbn, hX, hM, h28', hR', hW'⟩ | ⟨rfl, hF⟩
    · rw [XLiRe_readLines_53_l10, h53, if_neg c0, p_peek h hn (by omega)]
      simp only [e1, t_ok hX, if_true]
      have hend : XTa_isAtEnd tX = if b < n then 0 else 1 := by
        unfold XTa_isAtEnd
        rw [hX.1, hX.2.1]
        simp (disch := omega) only [z_lt]
      have hmend : (tM.2.1 63 7 ≤ tM.2.1 63 6) = (n ≤ b) := by rw [hM.1, hM.2.1, z_le (by omega) (by omega)]
      by_cases c1 : b < n
      · obtain ⟨x, s5, u5, f1, f2, k1, n1, f3⟩ := t_tk hX hM hB hn hbn 59 (by omega)
        have f1 : XTa_take 59 tX = some (x, s5) := f1
        have f2 : M_takes 59 tM = some (x, u5) := f2
        have hend0 : XTa_isAtEnd tX = 0 := by rw [hend, if_pos c1]
        have hm0 : ¬ tM.2.1 63 7 ≤ tM.2.1 63 6 := by rw [hmend]; omega
        simp only [hend0, if_true, f1]
        rcases f3 with ⟨rfl, f4, f5, f6, -⟩ | ⟨rfl, hF⟩
        · obtain ⟨r, t2, y0, v, y2, t3, g1, g2, g3, g4, p1, p2, g5⟩ := ih (k + 1) (b + 1) s5 u5 (by omega) f5 f6 (R_KN hR' (fun c j _ _ => k1.2 c j (by omega)) (fun j _ => n1 64 j (by omega))) (W_KN hW' (fun j => k1.2 32 j (by omega)) (fun j _ _ => n1 64 j (by omega))) (by omega) (by rw [k1.2 _ _ (by omega), pX _ _ (by omega) (by omega)]; exact h53) (by rw [n1 _ _ (by omega)]; exact h28') m1 m2 (by omega) (by omega)
          refine ⟨r, t2, 1, tM, y2, t3, ?_, e2, ?_, Or.inr rfl, P2_tr pX (P2_tr (K_P2 k1) p1), Q2_tr pM (Q2_tr (N_Q2 n1) p2), g5⟩
          · simp only [z_10, if_false, z_1]
            exact g1
          · rw [M_edits_l46, if_neg (by decide), if_neg hm0, f2]
            simp only [z_10, if_false, g2]
            rcases g4 with rfl | rfl
            · simp only [if_true]; exact g3
            · simp only [z_10, if_false]; exact g3
        · refine ⟨XTa_fault s5, s5, 1, tM, 0, u5, ?_, e2, ?_, Or.inr rfl, P2_tr pX (K_P2 k1), Q2_tr pM (N_Q2 n1), Or.inr ⟨rfl, hF⟩⟩
          · simp only [if_true]
          · obtain ⟨m2, rfl⟩ : ∃ m, m2 = m + 1 := ⟨m2 - 1, by omega⟩
            rw [M_edits_l46, if_neg (by decide), if_neg hm0, f2]
            simp only [if_true]
            rw [M_edits_l46]; rfl
      · have hend1 : ¬ XTa_isAtEnd tX = 0 := by rw [hend, if_neg c1]; decide
        have hm1 : tM.2.1 63 7 ≤ tM.2.1 63 6 := by rw [hmend]; omega
        refine ⟨nI (k + 1), tX, 1, tM, 1, tM, ?_, e2, ?_, Or.inr rfl, pX, pM, Or.inl ⟨rfl, k + 1, by omega, by omega, rfl, h28', hR', hW'⟩⟩
        · simp only [hend1, if_false, z_1]
        · rw [M_edits_l46, if_neg (by decide), if_pos hm1]
    · refine ⟨XTa_fault tX, tX, 0, tM, 0, tM, ?_, e2, by rw [M_edits_l46]; rfl, Or.inl rfl, pX, pM, Or.inr ⟨rfl, hF⟩⟩
      rw [XLiRe_readLines_53_l10, h53, if_neg c0, p_peek h hn (by omega)]
      simp only [e1, t_flt hF, z_10, if_false]
