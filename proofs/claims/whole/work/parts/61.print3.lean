/-! print: the call -/
theorem y_print (x : Int32) (s : ax_S) (h : y_inv s.2.1) : y_sim (X_print x) (M_print x) s := by
  rcases z_inX (x := x) (s := s) 1 160 (by omega) (by omega) with h1 | ⟨h1, n, hn1, hn2, rfl⟩
  · have h1 : M_in x 1 160 s = 0 := h1
    refine y_same h (-1) ?_ ?_
    · unfold X_print; rw [X_within_eq, if_pos h1]
    · unfold M_print; rw [if_pos h1]
  have hin : ∀ t, ¬ M_in (nI n) 1 160 t = 0 := fun t => by
    show ¬ M_in (nI n) (nI 1) (nI 160) s = 0
    rw [h1]; decide
  obtain ⟨l, B, hl, e1, e2, hB, eX, eM⟩ := y_tpB h.2.2.2.1
  by_cases c : l < n
  · refine y_same h (-1) ?_ ?_
    · unfold X_print
      rw [X_within_eq, if_neg (hin s), if_pos (by rw [X_holds_n hl (by omega) e1]; exact c)]
    · unfold M_print
      rw [if_neg (hin s), e2, if_neg (by rw [z_le (by omega) (by omega)]; omega)]
  have hhold : ¬ XTa_holds (nI n) s = 0 := by rw [X_holds_n hl (by omega) e1]; exact c
  -- the class
  obtain ⟨s1, a1, a2, a3⟩ := X_clear26 s
  have hX0 : t_X B n 0 (XTa_beginText (nI n) s1) := by
    unfold XTa_beginText
    refine ⟨?_, ?_, ?_, fun k hk => ?_⟩
    · simp (disch := omega) only [r_Ie, r_un, r_u]
      rw [a3 1 (by omega), e1]
      simp (disch := omega) only [z_lt, if_neg c]
    · simp (disch := omega) only [r_Ie, r_un, r_u]; rfl
    · simp (disch := omega) only [r_Ie, r_un, r_u]
    · simp (disch := omega) only [r_I]; rw [a3 2 (by omega)]; exact eX k (by omega)
  have fX0 : ∀ c j, ¬ (c = 1 ∧ (j = 2 ∨ j = 3 ∨ j = 4 ∨ j = 5)) → c ≠ 27 → (XTa_beginText (nI n) s1).2.1 c j = s.2.1 c j := fun c j hc hc2 => by
    unfold XTa_beginText
    rw [r_two c j (by omega) (by omega), r_two c j (by omega) (by omega), a3 c hc2]
  have fX27 : ∀ j, j < 12 → (XTa_beginText (nI n) s1).2.1 27 j = -1 := fun j hj => by
    unfold XTa_beginText
    rw [r_two 27 j (by omega) (by omega), r_two 27 j (by omega) (by omega), a2 j hj]
  -- the reference, from any store with this tape
  have mkM : ∀ t : ax_S, (∀ k, t.2.1 67 k &&& 255 = nI (B k)) → ∃ u w, M_copies_64_65 (ax_sI (M_beginsText (nI n) t) 63 28 0) = some u ∧ M_print_l44 70000 0 u = some w ∧ (∀ j, j < 291 → w.2.1 65 j = t.2.1 64 j) ∧ t_M B n 0 w ∧ w.2.1 63 28 = nI 0 ∧ t_R (XTa_beginText (nI n) s1) w ∧ ∀ c j, c ≠ 65 → ¬ (c = 64 ∧ j < 12) → ¬ (c = 63 ∧ (j = 6 ∨ j = 7 ∨ j = 11 ∨ j = 13 ∨ j = 28)) → w.2.1 c j = t.2.1 c j := fun t ht => by
    obtain ⟨u, b1, b2, b3, b4, b5⟩ := m_prep n t ht
    obtain ⟨w, d1, d2, d3⟩ := M_clear44 u
    refine ⟨u, w, b1, d1, fun j hj => by rw [d3 _ _ (by omega)]; exact b2 j hj, ⟨by rw [d3 _ _ (by omega)]; exact b3.1, by rw [d3 _ _ (by omega)]; exact b3.2.1, fun k => by rw [d3 _ _ (by omega)]; exact b3.2.2 k⟩, by rw [d3 _ _ (by omega)]; exact b4, fun i hi => ?_, fun c j q1 q2 q3 => by rw [d3 c j q2]; exact b5 c j q1 q3⟩
    have x0 : w.2.1 64 (12 * 0 + i) = -1 := by rw [Nat.mul_zero, Nat.zero_add]; exact d2 i hi
    refine ⟨?_, Or.inl x0⟩
    show (XTa_beginText (nI n) s1).2.1 (27 + 0) i = w.2.1 64 (12 * 0 + i)
    rw [x0]; exact fX27 i hi
  have h52 : (XTa_beginText (nI n) s1).2.1 52 1 = nI 12 := by rw [fX0 _ _ (by omega) (by omega)]; exact h.2.2.2.2.2.1
  obtain ⟨u0, w0, -, -, -, m0, m00, m000, -⟩ := mkM s eM
  obtain ⟨r, tX, -, -, -, -, g1, -, -, -, pX, -, -⟩ := t_ploop hB (by omega) 12 0 0 _ w0 (by omega) hX0 m0 m000 (by omega) h52 m00 70000 70000 (by omega) (by omega)
  have hXr : XLiRe_readLines_52 (nI n) s1 = some (r, tX) := by
    unfold XLiRe_readLines_52
    have g1 : XLiRe_readLines_52_l10 70000 0 (XTa_beginText (nI n) s1) = some (r, tX) := g1
    rw [g1]
  have fT : ∀ c j, ¬ (c = 1 ∧ (j = 2 ∨ j = 3 ∨ j = 4 ∨ j = 5)) → ¬ (27 ≤ c ∧ c ≤ 31) → tX.2.1 c j = s.2.1 c j := fun c j q1 q2 => by
    rw [pX c j (by omega) q2, fX0 c j q1 (by omega)]
  -- both, from any store t with this tape
  have both : ∀ t : ax_S, (∀ k, t.2.1 67 k &&& 255 = nI (B k)) → (∀ j, j < 291 → t.2.1 64 j = s.2.1 64 j) → t.2.1 63 5 = nI l →
      ∃ y t4, (M_print (nI n) t = some (y, t4)) ∧ y = r ∧ t4.2.1 63 5 = 0 ∧ (∀ c j, c ≠ 65 → c ≠ 64 → ¬ (c = 63 ∧ (j = 5 ∨ j = 6 ∨ j = 7 ∨ j = 8 ∨ j = 9 ∨ j = 11 ∨ j = 13 ∨ j = 28)) → t4.2.1 c j = t.2.1 c j) ∧
        ((r ≤ 0 ∧ ∀ j, j < 291 → t4.2.1 64 j = s.2.1 64 j) ∨ (¬ r ≤ 0 ∧ t_R tX t4 ∧ ∀ j, 60 ≤ j → j < 291 → t4.2.1 64 j = s.2.1 64 j)) := fun t ht ht2 ht3 => by
    obtain ⟨u, w, b1, b2, b3, b4, b5, b6, b7⟩ := mkM t ht
    obtain ⟨r', tX', y0, v, y, tM, f1, f2, f3, -, -, pM, f4⟩ := t_ploop hB (by omega) 12 0 0 _ w (by omega) hX0 b4 b6 (by omega) h52 b5 70000 70000 (by omega) (by omega)
    rw [g1] at f1
    obtain ⟨rfl, rfl⟩ : r = r' ∧ tX = tX' := by simpa using f1
    have hM : M_print (nI n) t = (if y = 0 then (match M_copies_65_64 (ax_sI tM 63 5 0) with
        | none => none
        | some s11 => some (s11.2.1 63 8, s11)) else some (tM.2.1 63 28, ax_sI tM 63 5 0)) := by
      unfold M_print
      rw [if_neg (hin t), ht3, if_pos (by rw [z_le (by omega) (by omega)]; omega), b1]
      simp only [b2, f2, f3]
      generalize M_copies_65_64 (ax_sI tM 63 5 0) = o
      cases o <;> rfl
    rcases f4 with ⟨rfl, K, hK1, hK2, rfl, f5, f6⟩ | ⟨rfl, q, p, q1, q2, q3, rfl, f5⟩
    · refine ⟨tM.2.1 63 28, ax_sI tM 63 5 0, by rw [hM, if_neg (by decide)], f5, by rw [r_Ie, r_u], fun c j d1 d2 d3 => by rw [r_one c j (by omega), pM c j (by omega) (by omega), b7 c j d1 (by omega) (by omega)], Or.inr ⟨by rw [z_le0 (by omega)]; omega, ?_, fun j d1 d2 => ?_⟩⟩
      · intro i hi
        have := f6 i hi
        simp only [v_ok, vX, vM] at this ⊢
        rw [r_I (by omega)]
        exact this
      · rw [r_I (by omega), pM _ _ (by omega) (by omega), b7 _ _ (by omega) (by omega) (by omega)]
        exact ht2 j d2
    · obtain ⟨t4, d1, d2, d3⟩ := M_copies_65_64_eq (ax_sI tM 63 5 0)
      refine ⟨t4.2.1 63 8, t4, by rw [hM, if_pos rfl, d1], ?_, ?_, fun c j e1 e2 e3 => ?_, Or.inl ⟨(t_fc_ne q1 q2 q3).2, fun j hj => ?_⟩⟩
      · rw [d3 63 (by omega), r_one _ _ (by omega)]; exact f5
      · rw [d3 63 (by omega), r_Ie, r_u]
      · rw [d3 c (by omega), r_one c j (by omega), pM c j (by omega) (by omega), b7 c j e1 (by omega) (by omega)]
      · rw [d2 j hj, r_I (by omega), pM _ _ (by omega) (by omega), b3 j hj]; exact ht2 j hj
  have hX : X_print (nI n) s = if r ≤ 0 then some (r, XTa_clear tX) else some (r, XFi_copyFrom_4_26 (XTa_clear tX)) := by
    unfold X_print
    rw [X_within_eq, if_neg (hin s), if_neg hhold, a1]
    simp only [hXr]
  have fC : ∀ c j, ¬ (c = 1 ∧ (j = 1 ∨ j = 2 ∨ j = 3 ∨ j = 4 ∨ j = 5)) → ¬ (27 ≤ c ∧ c ≤ 31) → (XTa_clear tX).2.1 c j = s.2.1 c j := fun c j q1 q2 => by
    unfold XTa_clear
    rw [r_one c j (by omega), fT c j (by omega) q2]
  have fC1 : (XTa_clear tX).2.1 1 1 = 0 := by unfold XTa_clear; rw [r_Ie, r_u]
  by_cases hr : r ≤ 0
  · obtain ⟨y, t4, i1, rfl, i2, i3, i4⟩ := both (XTa_clear tX) (fun k => by rw [fC _ _ (by omega) (by omega)]; exact eM k) (fun j hj => fC _ _ (by omega) (by omega)) (by rw [fC _ _ (by omega) (by omega)]; exact e2)
    refine ⟨y, XTa_clear tX, t4, by rw [hX, if_pos hr], i1, ?_⟩
    rcases i4 with ⟨-, i4⟩ | ⟨i4, -⟩
    · have e : ∀ c j, c ≠ 65 → c ≠ 64 → ¬ (c = 63 ∧ (j = 5 ∨ j = 6 ∨ j = 7 ∨ j = 8 ∨ j = 9 ∨ j = 11 ∨ j = 13 ∨ j = 28)) → ¬ (c = 1 ∧ (j = 1 ∨ j = 2 ∨ j = 3 ∨ j = 4 ∨ j = 5)) → ¬ (27 ≤ c ∧ c ≤ 31) → t4.2.1 c j = s.2.1 c j := fun c j d1 d2 d3 d4 d5 => by rw [i3 c j d1 d2 d3, fC c j d4 d5]
      refine y_emp2 h (g_St h.1 (fun c j _ _ => e c j (by omega) (by omega) (by omega) (by omega) (by omega)) (e _ _ (by omega) (by omega) (by omega) (by omega) (by omega)) (e _ _ (by omega) (by omega) (by omega) (by omega) (by omega)) i4) (by rw [i3 _ _ (by omega) (by omega) (by omega)]; exact fC1) i2 fun c j k => e c j (by omega) (by omega) (by omega) (by omega) (by omega)
    · exact absurd hr i4
  · obtain ⟨p1, p2⟩ := XFi_copyFrom_4_26_eq (XTa_clear tX)
    have fD : ∀ c j, ¬ (c = 1 ∧ (j = 1 ∨ j = 2 ∨ j = 3 ∨ j = 4 ∨ j = 5)) → ¬ (27 ≤ c ∧ c ≤ 31) → ¬ (5 ≤ c ∧ c ≤ 9) → (XFi_copyFrom_4_26 (XTa_clear tX)).2.1 c j = s.2.1 c j := fun c j q1 q2 q3 => by
      rw [p2 c (by omega), fC c j q1 q2]
    obtain ⟨y, t4, i1, rfl, i2, i3, i4⟩ := both (XFi_copyFrom_4_26 (XTa_clear tX)) (fun k => by rw [fD _ _ (by omega) (by omega) (by omega)]; exact eM k) (fun j hj => fD _ _ (by omega) (by omega) (by omega)) (by rw [fD _ _ (by omega) (by omega) (by omega)]; exact e2)
    refine ⟨y, _, t4, by rw [hX, if_neg hr], i1, ?_⟩
    rcases i4 with ⟨i4, -⟩ | ⟨-, i4, i5⟩
    · exact absurd i4 hr
    · have e : ∀ c j, c ≠ 65 → c ≠ 64 → ¬ (c = 63 ∧ (j = 5 ∨ j = 6 ∨ j = 7 ∨ j = 8 ∨ j = 9 ∨ j = 11 ∨ j = 13 ∨ j = 28)) → ¬ (c = 1 ∧ (j = 1 ∨ j = 2 ∨ j = 3 ∨ j = 4 ∨ j = 5)) → ¬ (27 ≤ c ∧ c ≤ 31) → ¬ (5 ≤ c ∧ c ≤ 9) → t4.2.1 c j = s.2.1 c j := fun c j d1 d2 d3 d4 d5 d6 => by rw [i3 c j d1 d2 d3, fD c j d4 d5 d6]
      refine y_emp2 h ⟨?_, g_Ps h.1.2.1 (fun k i hk _ => e _ _ (by omega) (by omega) (by omega) (by omega) (by omega) (by omega)) (fun j q1 q2 => i5 j (by omega) (by omega)), g_Al h.1.2.2.1 (fun i _ => e _ _ (by omega) (by omega) (by omega) (by omega) (by omega) (by omega)) (fun j q1 q2 => i5 j (by omega) (by omega)), g_Dy h.1.2.2.2 (e _ _ (by omega) (by omega) (by omega) (by omega) (by omega) (by omega)) (e _ _ (by omega) (by omega) (by omega) (by omega) (by omega) (by omega)) (fun j q1 q2 => i5 j (by omega) (by omega))⟩ (by rw [i3 _ _ (by omega) (by omega) (by omega), p2 1 (by omega)]; exact fC1) i2 fun c j k => e c j (by omega) (by omega) (by omega) (by omega) (by omega) (by omega)
      intro i hi
      have h9 := i4 i hi
      have row : ∀ k, k < 5 → t4.2.1 (5 + k) i = tX.2.1 (27 + k) i := fun k hk => by
        rw [i3 _ _ (by omega) (by omega) (by omega)]
        have := p1 k i hk hi
        rw [show 3 + 2 + k = 5 + k by omega, show 25 + 2 + k = 27 + k by omega] at this
        rw [this]
        unfold XTa_clear
        rw [r_one _ _ (by omega)]
      simp only [v_ok, vX, vM] at h9 ⊢
      have r0 := row 0 (by omega)
      have r1 := row 1 (by omega)
      have r2 := row 2 (by omega)
      have r3 := row 3 (by omega)
      have r4 := row 4 (by omega)
      rw [← r0, ← r1, ← r2, ← r3, ← r4] at h9
      exact h9
