/-! print: the lines and the call -/
theorem t_ploop {B : Nat → Nat} {n : Nat} (hB : ∀ k, B k < 256) (hn : n ≤ 260) : ∀ d k a sX sM, k + d = 12 → t_X B n a sX → t_M B n a sM → t_R sX sM → a ≤ n → sX.2.1 52 1 = nI 12 → sM.2.1 63 28 = nI k → ∀ m1 m2, d + 2 ≤ m1 → d + 2 ≤ m2 →
    ∃ r tX y0 u y tM, XLiRe_readLines_52_l10 m1 (nI k) sX = some (r, tX) ∧ M_readsFigure sM = some (y0, u) ∧ M_print_l70 m2 y0 u = some (y, tM) ∧ (y0 = 0 ∨ y0 = 1) ∧ t_P sX tX ∧ t_Q sM tM ∧
      ((y = 1 ∧ ∃ K, 1 ≤ K ∧ K ≤ 12 ∧ r = nI K ∧ tM.2.1 63 28 = nI K ∧ t_R tX tM) ∨ (y = 0 ∧ ∃ q p, 1 ≤ q ∧ q ≤ 9 ∧ p ≤ 300 ∧ r = t_fc q p ∧ tM.2.1 63 8 = t_fc q p)) := by
  intro d
  induction d with
  | zero =>
    intro k a sX sM hkd h g hR ha h52 h28 m1 m2 hm1 hm2
    obtain ⟨tX, y, tM, e1, e2, pX, pM, r⟩ := t_pfig h g hR hB hn ha (by omega) h52 h28
    rcases r with ⟨-, hk, -⟩ | ⟨rfl, hF⟩
    · omega
    · obtain ⟨m1, rfl⟩ : ∃ m, m1 = m + 1 := ⟨m1 - 1, by omega⟩
      obtain ⟨m2, rfl⟩ : ∃ m, m2 = m + 1 := ⟨m2 - 1, by omega⟩
      have c0 : ¬ nI 12 < nI k := by rw [z_lt (by omega) (by omega)]; omega
      refine ⟨XTa_fault tX, tX, 0, tM, 0, tM, ?_, e2, by rw [M_print_l70]; rfl, Or.inl rfl, pX, pM, Or.inr ⟨rfl, hF⟩⟩
      rw [XLiRe_readLines_52_l10, h52, if_neg c0, p_peek h hn (by omega)]
      simp only [e1, t_flt hF, z_10, if_false]
  | succ d ih =>
    intro k a sX sM hkd h g hR ha h52 h28 m1 m2 hm1 hm2
    obtain ⟨tX, y, tM, e1, e2, pX, pM, r⟩ := t_pfig h g hR hB hn ha (by omega) h52 h28
    obtain ⟨m1, rfl⟩ : ∃ m, m1 = m + 1 := ⟨m1 - 1, by omega⟩
    obtain ⟨m2, rfl⟩ : ∃ m, m2 = m + 1 := ⟨m2 - 1, by omega⟩
    have c0 : ¬ nI 12 < nI k := by rw [z_lt (by omega) (by omega)]; omega
    rcases r with ⟨rfl, hk, b, hab, hbn, hX, hM, h28', hR'⟩ | ⟨rfl, hF⟩
    · rw [XLiRe_readLines_52_l10, h52, if_neg c0, p_peek h hn (by omega)]
      simp only [e1, t_ok hX, if_true]
      have hend : XTa_isAtEnd tX = if b < n then 0 else 1 := by
        unfold XTa_isAtEnd
        rw [hX.1, hX.2.1]
        simp (disch := omega) only [z_lt]
      have hmend : (tM.2.1 63 7 ≤ tM.2.1 63 6) = (n ≤ b) := by rw [hM.1, hM.2.1, z_le (by omega) (by omega)]
      by_cases c1 : b < n
      · obtain ⟨x, s5, u5, f1, f2, k1, n1, f3⟩ := t_tk hX hM hB hn hbn 59 (by omega)
        have f1 : XTa_take 59 tX = some (x, s5) := f1
        have f2 : M_takes 59 tM = some (x, u5) := f2
        have hend0 : XTa_isAtEnd tX = 0 := by rw [hend, if_pos c1]
        have hm0 : ¬ tM.2.1 63 7 ≤ tM.2.1 63 6 := by rw [hmend]; omega
        simp only [hend0, if_true, f1]
        rcases f3 with ⟨rfl, f4, f5, f6, -⟩ | ⟨rfl, hF⟩
        · obtain ⟨r, t2, y0, v, y2, t3, g1, g2, g3, g4, p1, p2, g5⟩ := ih (k + 1) (b + 1) s5 u5 (by omega) f5 f6 (by
              intro i hi
              have := hR' i hi
              simp only [v_ok, vX, vM] at this ⊢
              have n1' : ∀ j, u5.2.1 64 j = tM.2.1 64 j := fun j => n1 64 j (by omega)
              simp (disch := omega) only [k1.2, n1']
              exact this) (by omega) (by rw [k1.2 _ _ (by omega), pX _ _ (by omega) (by omega)]; exact h52) (by rw [n1 _ _ (by omega)]; exact h28') m1 m2 (by omega) (by omega)
          refine ⟨r, t2, 1, tM, y2, t3, ?_, e2, ?_, Or.inr rfl, P_tr pX (P_tr (K_P k1) p1), Q_tr pM (Q_tr (N_Q n1) p2), g5⟩
          · simp only [z_10, if_false, z_1]
            exact g1
          · rw [M_print_l70, if_neg (by decide), if_neg hm0, f2]
            simp only [z_10, if_false, g2]
            rcases g4 with rfl | rfl
            · simp only [if_true]; exact g3
            · simp only [z_10, if_false]; exact g3
        · refine ⟨XTa_fault s5, s5, 1, tM, 0, u5, ?_, e2, ?_, Or.inr rfl, P_tr pX (K_P k1), Q_tr pM (N_Q n1), Or.inr ⟨rfl, hF⟩⟩
          · simp only [if_true]
          · obtain ⟨m2, rfl⟩ : ∃ m, m2 = m + 1 := ⟨m2 - 1, by omega⟩
            rw [M_print_l70, if_neg (by decide), if_neg hm0, f2]
            simp only [if_true]
            rw [M_print_l70]; rfl
      · have hend1 : ¬ XTa_isAtEnd tX = 0 := by rw [hend, if_neg c1]; decide
        have hm1 : tM.2.1 63 7 ≤ tM.2.1 63 6 := by rw [hmend]; omega
        refine ⟨nI (k + 1), tX, 1, tM, 1, tM, ?_, e2, ?_, Or.inr rfl, pX, pM, Or.inl ⟨rfl, k + 1, by omega, by omega, rfl, h28', hR'⟩⟩
        · simp only [hend1, if_false, z_1]
        · rw [M_print_l70, if_neg (by decide), if_pos hm1]
    · refine ⟨XTa_fault tX, tX, 0, tM, 0, tM, ?_, e2, by rw [M_print_l70]; rfl, Or.inl rfl, pX, pM, Or.inr ⟨rfl, hF⟩⟩
      rw [XLiRe_readLines_52_l10, h52, if_neg c0, p_peek h hn (by omega)]
      simp only [e1, t_flt hF, z_10, if_false]
theorem X_clear26 (s : ax_S) : ∃ t, XFi_clear_26 s = some t ∧ (∀ i, i < 12 → t.2.1 27 i = -1) ∧ ∀ c, c ≠ 27 → t.2.1 c = s.2.1 c := by
  unfold XFi_clear_26 J_fill_27
  obtain ⟨b, h1, h2⟩ := z_for (fun n k (a : ax_S) => J_fill_27_l5 n (-1) (nI k) (nI 12) a) 12 (fun k a => (∀ j, j < k → a.2.1 27 j = -1) ∧ (∀ c, c ≠ 27 → a.2.1 c = s.2.1 c)) (fun b => (∀ j, j < 12 → b.2.1 27 j = -1) ∧ (∀ c, c ≠ 27 → b.2.1 c = s.2.1 c)) (fun n a ha => ⟨a, by
      show J_fill_27_l5 (n + 1) (-1) (nI 12) (nI 12) a = some a
      rw [J_fill_27_l5]
      exact if_pos (by decide), ha⟩) (fun n k a hk ha => Or.inr ⟨ax_sI a 27 k (-1), by
      show J_fill_27_l5 (n + 1) (-1) (nI k) (nI 12) a = J_fill_27_l5 n (-1) (nI (k + 1)) (nI 12) _
      rw [J_fill_27_l5]
      simp (disch := omega) only [z_1, z_cl, z_lt0, z_le, z_nle, if_false, or_self], by
      refine ⟨fun j hj => ?_, fun c hc => ?_⟩
      · rw [r_Ie]
        by_cases hjk : j = k
        · subst hjk; rw [r_u]
        · rw [r_un hjk]; exact ha.1 j (by omega)
      · rw [r_I hc]; exact ha.2 c hc⟩) 70000 0 s (by omega) ⟨fun j hj => absurd hj (Nat.not_lt_zero _), fun _ _ => rfl⟩ (by omega)
  have h1 : J_fill_27_l5 70000 (-1) 0 12 s = some b := h1
  rw [h1]
  exact ⟨b, rfl, h2⟩
theorem M_clear44 (s : ax_S) : ∃ t, M_print_l44 70000 0 s = some t ∧ (∀ i, i < 12 → t.2.1 64 i = -1) ∧ ∀ c j, ¬ (c = 64 ∧ j < 12) → t.2.1 c j = s.2.1 c j := by
  obtain ⟨b, h1, h2⟩ := z_for (fun n k (a : ax_S) => M_print_l44 n (nI k) a) 12 (fun k a => (∀ j, j < k → a.2.1 64 j = -1) ∧ (∀ c j, ¬ (c = 64 ∧ j < 12) → a.2.1 c j = s.2.1 c j)) (fun b => (∀ j, j < 12 → b.2.1 64 j = -1) ∧ (∀ c j, ¬ (c = 64 ∧ j < 12) → b.2.1 c j = s.2.1 c j)) (fun n a ha => ⟨a, by
      show M_print_l44 (n + 1) (nI 12) a = some a
      rw [M_print_l44]
      exact if_pos (by decide), ha⟩) (fun n k a hk ha => Or.inr ⟨ax_sI a 64 k (-1), by
      show M_print_l44 (n + 1) (nI k) a = M_print_l44 n (nI (k + 1)) _
      rw [M_print_l44]
      simp (disch := omega) only [q_12, z_0add, z_1, z_cl, z_lt0, z_le, z_nle, if_false, or_self], by
      refine ⟨fun j hj => ?_, fun c j hc => ?_⟩
      · rw [r_Ie]
        by_cases hjk : j = k
        · subst hjk; rw [r_u]
        · rw [r_un hjk]; exact ha.1 j (by omega)
      · rw [r_one c j (by omega)]; exact ha.2 c j hc⟩) 70000 0 s (by omega) ⟨fun j hj => absurd hj (Nat.not_lt_zero _), fun _ _ _ => rfl⟩ (by omega)
  exact ⟨b, h1, h2⟩
/-- the reference's opening of a text that changes the story -/
theorem m_prep {B : Nat → Nat} (n : Nat) (t : ax_S) (hB : ∀ k, t.2.1 67 k &&& 255 = nI (B k)) : ∃ u, M_copies_64_65 (ax_sI (M_beginsText (nI n) t) 63 28 0) = some u ∧ (∀ j, j < 291 → u.2.1 65 j = t.2.1 64 j) ∧ t_M B n 0 u ∧ u.2.1 63 28 = nI 0 ∧ ∀ c j, c ≠ 65 → ¬ (c = 63 ∧ (j = 6 ∨ j = 7 ∨ j = 11 ∨ j = 13 ∨ j = 28)) → u.2.1 c j = t.2.1 c j := by
  obtain ⟨u, h1, h2, h3⟩ := M_copies_64_65_eq (ax_sI (M_beginsText (nI n) t) 63 28 0)
  unfold M_beginsText at h1 h2 h3 ⊢
  refine ⟨u, h1, fun j hj => ?_, ⟨?_, ?_, fun k => ?_⟩, ?_, fun c j hc hj => ?_⟩
  · rw [h2 j hj]; simp (disch := omega) only [r_I]
  · rw [h3 63 (by omega)]; simp (disch := omega) only [r_Ie, r_un, r_u]
  · rw [h3 63 (by omega)]; simp (disch := omega) only [r_Ie, r_un, r_u]; rfl
  · rw [h3 67 (by omega)]; simp (disch := omega) only [r_I]; exact hB k
  · rw [h3 63 (by omega)]; simp (disch := omega) only [r_Ie, r_u]; rfl
  · rw [h3 c hc, r_one c j (by omega), r_two c j (by omega) (by omega), r_two c j (by omega) (by omega)]
theorem y_emp2 {s t : ax_S} (h : y_inv s.2.1) (hn : v_St t.2.1 3 64) (h1 : t.2.1 1 1 = 0) (h2 : t.2.1 63 5 = 0) (e : ∀ c j, k_K c j ∨ k_B c j ∨ k_L c j ∨ k_C c j → t.2.1 c j = s.2.1 c j) : y_inv t.2.1 :=
  ⟨hn, g_kp h.2.1 fun c j k => e c j (Or.inl k), g_bd h.2.2.1 fun c j k => e c j (Or.inr (Or.inl k)), ⟨0, by omega, h1, h2, fun k hk => absurd hk (Nat.not_lt_zero _)⟩, g_lawk h.2.2.2.2.1 fun c j k => e c j (Or.inr (Or.inr (Or.inl k))), g_ln h.2.2.2.2.2 fun c j k => e c j (Or.inr (Or.inr (Or.inr k)))⟩
