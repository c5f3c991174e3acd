/-! law: all rules -/
theorem l_cb (v : Int32) (s : ax_S) : (l_kc v ∧ XLaRe_canBegin v s = 1) ∨ (¬ l_kc v ∧ XLaRe_canBegin v s = 0) := by
  unfold XLaRe_canBegin l_kc
  by_cases c1 : v = 119
  · exact Or.inl ⟨Or.inl c1, by rw [if_pos c1]⟩
  by_cases c2 : v = 108
  · exact Or.inl ⟨Or.inr (Or.inl c2), by rw [if_neg c1, if_pos c2]⟩
  by_cases c3 : v = 104
  · exact Or.inl ⟨Or.inr (Or.inr (Or.inl c3)), by rw [if_neg c1, if_neg c2, if_pos c3]⟩
  by_cases c4 : v = 99
  · exact Or.inl ⟨Or.inr (Or.inr (Or.inr c4)), by rw [if_neg c1, if_neg c2, if_neg c3, if_pos c4]⟩
  exact Or.inr ⟨by rintro (y | y | y | y); exact c1 y; exact c2 y; exact c3 y; exact c4 y, by rw [if_neg c1, if_neg c2, if_neg c3, if_neg c4]⟩
theorem l31_0 (m : Nat) (s : ax_S) : M_law_l31 (m + 1) 0 s = some (0, s) := by
  rw [M_law_l31, if_pos rfl]
theorem KR_K {s t : ax_S} (h : t_K s t) : l_KR s t := KR_of (lK_of h)
theorem NR_N {s t : ax_S} (h : t_N s t) : l_NR s t := NR_of (lN_of h)
theorem l_lloop {B : Nat → Nat} {n : Nat} (hB : ∀ k, B k < 256) (hn : n ≤ 240) : ∀ g r sX sM a c nX nM, r + g = 16 → a ≤ n → c ≤ a → l_cX B n a c sX → sX.2.1 44 7 = nI r → sX.2.1 54 1 = nI 16 → t_M B n a sM → sM.2.1 63 11 = nI c → sM.2.1 63 13 = nI r → (∀ q, q < r → l_dr sX sM q c) → g + 2 < nX → g + 2 < nM →
    ∃ x tX y tM v1 s2, XLiRe_readLines_54_l10 nX (nI r) sX = some (x, tX) ∧ M_readsRule sM = some (v1, s2) ∧ (v1 = 0 ∨ v1 = 1) ∧ M_law_l31 nM v1 s2 = some (y, tM) ∧ l_KR sX tX ∧ l_NR sM tM ∧
      ((y = 1 ∧ ∃ R c', 1 ≤ R ∧ R ≤ 16 ∧ c' ≤ 240 ∧ x = nI R ∧ tX.2.1 44 7 = nI R ∧ tX.2.1 44 8 = nI c' ∧ tM.2.1 63 13 = nI R ∧ tM.2.1 63 11 = nI c' ∧ ∀ q, q < R → l_dr tX tM q c') ∨
       (y = 0 ∧ ∃ q p, 1 ≤ q ∧ q ≤ 9 ∧ p ≤ 300 ∧ x = t_fc q p ∧ tM.2.1 63 8 = t_fc q p)) := by
  intro g
  induction g with
  | zero =>
    intro r sX sM a c nX nM hr ha hc hX h7 h54 hM hMc h13 hd hnX hnM
    have kn : n ≤ 260 := by omega
    have r16 : r = 16 := by omega
    subst r16
    obtain ⟨nX, rfl⟩ : ∃ x, nX = x + 1 := ⟨nX - 1, by omega⟩
    obtain ⟨nM, rfl⟩ : ∃ x, nM = x + 1 := ⟨nM - 1, by omega⟩
    rw [XLiRe_readLines_54_l10, h54, if_neg (by rw [z_lt (by omega) (by omega)]; omega), p_peek hX.1 kn (by omega)]
    simp only []
    unfold XLiRe_readLines_54_j29
    rcases l_cb (t_ch B n a) sX with ⟨e1, e2⟩ | ⟨e1, e2⟩
    · obtain ⟨w1, w2, w3⟩ := M_wr 4 a sM
      have f1 : (XTa_refuse 4 sX).2.1 1 5 = t_fc 4 a := by unfold XTa_refuse; rw [hX.1.2.1]; exact X_rf hX.1 4 a
      have f2 : ¬ XTa_isFaulty (XTa_refuse 4 sX) = 0 := by
        unfold XTa_isFaulty
        rw [f1, if_neg (t_fc_ne (by omega) (by omega) (by omega)).1]
        decide
      rw [e2, if_neg (by decide), h54, if_pos rfl]
      simp only []
      rw [if_neg f2]
      refine ⟨_, _, 0, _, 0, (M_wrongAt (nI 4) (nI a) sM).2, rfl, ?_, Or.inl rfl, l31_0 nM _, KR_K (K_ref _ _ _), NR_N w3, Or.inr ⟨rfl, 4, a, by omega, by omega, by omega, f1, w2⟩⟩
      rw [M_rule_eq sM _ (p_here hM kn (by omega)) e1]
      unfold l_rb
      rw [h13, if_pos (show nI 16 = 16 from rfl), hM.2.1]
      rfl
    · obtain ⟨w1, w2, w3⟩ := M_wr 1 a sM
      have f1 : (XTa_refuse 1 sX).2.1 1 5 = t_fc 1 a := by unfold XTa_refuse; rw [hX.1.2.1]; exact X_rf hX.1 1 a
      have f2 : ¬ XTa_isFaulty (XTa_refuse 1 sX) = 0 := by
        unfold XTa_isFaulty
        rw [f1, if_neg (t_fc_ne (by omega) (by omega) (by omega)).1]
        decide
      rw [e2, if_pos rfl]
      simp only []
      rw [if_neg f2]
      refine ⟨_, _, 0, _, 0, (M_wrongAt (nI 1) (nI a) sM).2, rfl, ?_, Or.inl rfl, l31_0 nM _, KR_K (K_ref _ _ _), NR_N w3, Or.inr ⟨rfl, 1, a, by omega, by omega, by omega, f1, w2⟩⟩
      rw [M_rule_no sM _ (p_here hM kn (by omega)) e1, hM.2.1]
      rfl
  | succ g ih =>
    intro r sX sM a c nX nM hr ha hc hX h7 h54 hM hMc h13 hd hnX hnM
    have kn : n ≤ 260 := by omega
    obtain ⟨nX, rfl⟩ : ∃ x, nX = x + 1 := ⟨nX - 1, by omega⟩
    obtain ⟨nM, rfl⟩ : ∃ x, nM = x + 1 := ⟨nM - 1, by omega⟩
    rw [XLiRe_readLines_54_l10, h54, if_neg (by rw [z_lt (by omega) (by omega)]; omega), p_peek hX.1 kn (by omega)]
    simp only []
    unfold XLiRe_readLines_54_j29
    rcases l_cb (t_ch B n a) sX with ⟨e1, e2⟩ | ⟨e1, e2⟩
    · rw [e2, if_neg (show ¬ (1 : Int32) = 0 by decide), h54, if_neg (by rw [z_eq (by omega) (by omega)]; omega)]
      rcases l_rule1 hB hn ha hc (by omega) hX h7 hM hMc h13 e1 (nI r) with ⟨b, m, tX, tM, s1, s2, s3, s4, s5, s6, s7, s8, s9, s10, s11, s12, s13, s14⟩ | ⟨tX, tM, s1, s2, s3, s4, s5⟩
      · have f2 : XTa_isFaulty tX = 0 := by
          unfold XTa_isFaulty
          rw [s6.1.2.2.1, if_pos rfl]
        have drs : ∀ q, q < r + 1 → l_dr tX tM q (c + m) := fun q hq => by
          by_cases e : q = r
          · subst e; exact s11
          · exact dr_sr (hd q (by omega)) (s12 q e) (by omega)
        rw [s4]
        simp only []
        rw [if_pos f2]
        have hAt : XTa_isAtEnd tX = if b < n then 0 else 1 := by
          unfold XTa_isAtEnd
          rw [s6.1.1, s6.1.2.1]
          simp (disch := omega) only [z_lt]
        by_cases en : n ≤ b
        · rw [hAt, if_neg (show ¬ b < n by omega), if_neg (show ¬ (1 : Int32) = 0 by decide)]
          refine ⟨_, tX, 1, tM, 1, tM, rfl, s5, Or.inr rfl, ?_, s13, s14, Or.inl ⟨rfl, r + 1, c + m, by omega, by omega, by omega, z_1 r, s7, s6.2, s10, s9, drs⟩⟩
          rw [M_law_l31, if_neg (by decide), s8.1, s8.2.1, if_pos (by rw [z_le (by omega) (by omega)]; exact en)]
        · rw [hAt, if_pos (show b < n by omega), if_pos rfl]
          obtain ⟨x0, uX, uM, g1, g2, g3, g4, g5⟩ := t_tk s6.1 s8 hB kn (by omega) 59 (by omega)
          have g1 : XTa_take 59 tX = some (x0, uX) := g1
          have g2 : M_takes 59 tM = some (x0, uM) := g2
          have l31 : M_law_l31 (nM + 1) 1 tM = (if x0 = 0 then M_law_l31 nM 0 uM else match M_readsRule uM with
              | none => none
              | some (v5, s6) => if v5 = 0 then M_law_l31 nM 0 s6 else M_law_l31 nM 1 s6) := by
            rw [M_law_l31, if_neg (by decide), s8.1, s8.2.1, if_neg (by rw [z_le (by omega) (by omega)]; exact en), g2]
            rfl
          rw [g1]
          simp only [z_1]
          rcases g5 with ⟨rfl, i1, i2, i3, i4⟩ | ⟨rfl, i1⟩
          · rw [if_neg (show ¬ (1 : Int32) = 0 by decide)]
            have kx : ∀ k j, ¬ (k = 1 ∧ (j = 3 ∨ j = 4 ∨ j = 5)) → uX.2.1 k j = tX.2.1 k j := g3.2
            obtain ⟨x, vX, y, vM, v1, s2', j1, j2, j3, j4, j5, j6, j7⟩ := ih (r + 1) uX uM (b + 1) (c + m) nX nM (by omega) (by omega) (by omega) ⟨i2, by rw [kx _ _ (by omega)]; exact s6.2⟩ (by rw [kx _ _ (by omega)]; exact s7) (by rw [kx _ _ (by omega), s13.2 _ _ (by omega) (by omega) (by omega)]; exact h54) i3 (by rw [g4 _ _ (by omega)]; exact s9) (by rw [g4 _ _ (by omega)]; exact s10) (fun q hq => dr_sr (drs q hq) ⟨fun k _ _ => kx _ _ (by omega), fun i _ => ⟨kx _ _ (by omega), kx _ _ (by omega)⟩, fun k _ _ => g4 _ _ (by omega), fun i _ => g4 _ _ (by omega)⟩ (Nat.le_refl _)) (by omega) (by omega)
            refine ⟨x, vX, y, vM, 1, tM, j1, s5, Or.inr rfl, ?_, KR_tr s13 (KR_tr (KR_K g3) j5), NR_tr s14 (NR_tr (NR_N g4) j6), j7⟩
            rw [l31, if_neg (show ¬ (1 : Int32) = 0 by decide), j2]
            rcases j3 with rfl | rfl
            · exact j4
            · exact j4
          · rw [if_pos rfl]
            obtain ⟨q, p, q1, q2, q3, q4, q5⟩ := i1
            obtain ⟨nM2, rfl⟩ : ∃ x, nM = x + 1 := ⟨nM - 1, by omega⟩
            exact ⟨_, uX, 0, uM, 1, tM, rfl, s5, Or.inr rfl, by rw [l31, if_pos rfl]; exact l31_0 _ _, KR_tr s13 (KR_K g3), NR_tr s14 (NR_N g4), Or.inr ⟨rfl, q, p, q1, q2, q3, q4, q5⟩⟩
      · obtain ⟨q, p, q1, q2, q3, q4, q5⟩ := s3
        have f2 : ¬ XTa_isFaulty tX = 0 := by
          unfold XTa_isFaulty
          rw [q4, if_neg (t_fc_ne q1 q2 q3).1]
          decide
        rw [s1]
        simp only []
        rw [if_neg f2]
        exact ⟨_, tX, 0, tM, 0, tM, rfl, s2, Or.inl rfl, l31_0 nM _, s4, s5, Or.inr ⟨rfl, q, p, q1, q2, q3, q4, q5⟩⟩
    · obtain ⟨w1, w2, w3⟩ := M_wr 1 a sM
      have f1 : (XTa_refuse 1 sX).2.1 1 5 = t_fc 1 a := by unfold XTa_refuse; rw [hX.1.2.1]; exact X_rf hX.1 1 a
      have f2 : ¬ XTa_isFaulty (XTa_refuse 1 sX) = 0 := by
        unfold XTa_isFaulty
        rw [f1, if_neg (t_fc_ne (by omega) (by omega) (by omega)).1]
        decide
      rw [e2, if_pos rfl]
      simp only []
      rw [if_neg f2]
      refine ⟨_, _, 0, _, 0, (M_wrongAt (nI 1) (nI a) sM).2, rfl, ?_, Or.inl rfl, l31_0 nM _, KR_K (K_ref _ _ _), NR_N w3, Or.inr ⟨rfl, 1, a, by omega, by omega, by omega, f1, w2⟩⟩
      rw [M_rule_no sM _ (p_here hM kn (by omega)) e1, hM.2.1]
      rfl
/-- the reference's copies -/
theorem M_l95_eq (s : ax_S) (c : Nat) (hc : c ≤ 250) (h : s.2.1 63 11 = nI c) : ∃ t, M_law_l95 70000 0 s = some t ∧ (∀ i, i < c → t.2.1 74 i = s.2.1 68 i) ∧ ∀ k j, k ≠ 74 → t.2.1 k j = s.2.1 k j := by
  obtain ⟨t, h1, h2⟩ := z_for (fun n k (a : ax_S) => M_law_l95 n (nI k) a) c (fun k a => (∀ i, i < k → a.2.1 74 i = s.2.1 68 i) ∧ ∀ k j, k ≠ 74 → a.2.1 k j = s.2.1 k j) (fun b => (∀ i, i < c → b.2.1 74 i = s.2.1 68 i) ∧ ∀ k j, k ≠ 74 → b.2.1 k j = s.2.1 k j) (fun n a ha => ⟨a, by
      show M_law_l95 (n + 1) (nI c) a = some a
      rw [M_law_l95, ha.2 63 11 (by omega), h, if_pos (by rw [z_le (by omega) (by omega)]; omega)], ha⟩) (fun n k a hk ha => Or.inr ⟨ax_sI a 74 k (a.2.1 68 k), by
      show M_law_l95 (n + 1) (nI k) a = M_law_l95 n (nI (k + 1)) _
      rw [M_law_l95, ha.2 63 11 (by omega), h, if_neg (by rw [z_le (by omega) (by omega)]; omega), if_neg (l_in (k := k) (N := 260) (by omega) (by omega)), if_neg (l_in (k := k) (N := 260) (by omega) (by omega)), z_cl (by omega), z_1], fun i hi => by
      by_cases e : i = k
      · subst e
        rw [r_Ie, r_u]; exact ha.2 68 i (by omega)
      · rw [r_one _ _ (by omega)]; exact ha.1 i (by omega), fun k2 j hk2 => by rw [r_one _ _ (by omega)]; exact ha.2 k2 j hk2⟩) 70000 0 s (by omega) ⟨fun i hi => absurd hi (Nat.not_lt_zero _), fun _ _ _ => rfl⟩ (by omega)
  exact ⟨t, h1, h2⟩
theorem M_l123_eq (s : ax_S) (R : Nat) (hR : R ≤ 16) (h : s.2.1 63 13 = nI R) : ∃ t, M_law_l123 70000 0 s = some t ∧ (∀ k i, k < 4 → i < R → t.2.1 (75 + k) i = s.2.1 (70 + k) i) ∧ ∀ k j, ¬ (75 ≤ k ∧ k ≤ 78) → t.2.1 k j = s.2.1 k j := by
  obtain ⟨t, h1, h2⟩ := z_for (fun n k (a : ax_S) => M_law_l123 n (nI k) a) R (fun k a => (∀ q i, q < 4 → i < k → a.2.1 (75 + q) i = s.2.1 (70 + q) i) ∧ ∀ k j, ¬ (75 ≤ k ∧ k ≤ 78) → a.2.1 k j = s.2.1 k j) (fun b => (∀ q i, q < 4 → i < R → b.2.1 (75 + q) i = s.2.1 (70 + q) i) ∧ ∀ k j, ¬ (75 ≤ k ∧ k ≤ 78) → b.2.1 k j = s.2.1 k j) (fun n a ha => ⟨a, by
      show M_law_l123 (n + 1) (nI R) a = some a
      rw [M_law_l123, ha.2 63 13 (by omega), h, if_pos (by rw [z_le (by omega) (by omega)]; omega)], ha⟩) (fun n k a hk ha => Or.inr ⟨ax_sI (ax_sI (ax_sI (ax_sI a 75 k (a.2.1 70 k)) 76 k (a.2.1 71 k)) 77 k (a.2.1 72 k)) 78 k (a.2.1 73 k), by
      show M_law_l123 (n + 1) (nI k) a = M_law_l123 n (nI (k + 1)) _
      have gi := l_in (k := k) (N := 16) (by omega) (by omega)
      rw [M_law_l123, ha.2 63 13 (by omega), h, if_neg (by rw [z_le (by omega) (by omega)]; omega), if_neg gi, if_neg gi, if_neg gi, if_neg gi, if_neg gi, if_neg gi, if_neg gi, if_neg gi, z_cl (by omega), z_1], fun q i hq hi => by
      by_cases e : i = k
      · subst e
        rw [← ha.2 (70 + q) i (by omega)]
        have hq4 : q = 0 ∨ q = 1 ∨ q = 2 ∨ q = 3 := by omega
        rcases hq4 with rfl | rfl | rfl | rfl
        · rw [r_two _ _ (by omega) (by omega), r_one _ _ (by omega), r_Ie, r_u]
        · rw [r_two _ _ (by omega) (by omega), r_Ie, r_u]
        · rw [r_one _ _ (by omega), r_Ie, r_u]
        · rw [r_Ie, r_u]
      · rw [r_two _ _ (by omega) (by omega), r_two _ _ (by omega) (by omega)]; exact ha.1 q i hq (by omega), fun k2 j hk2 => by rw [r_two _ _ (by omega) (by omega), r_two _ _ (by omega) (by omega)]; exact ha.2 k2 j hk2⟩) 70000 0 s (by omega) ⟨fun q i _ hi => absurd hi (Nat.not_lt_zero _), fun _ _ _ => rfl⟩ (by omega)
  exact ⟨t, h1, h2⟩
