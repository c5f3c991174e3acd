/-! edits: the call -/
theorem y_edits (x : Int32) (s : ax_S) (h : y_inv s.2.1) : y_sim (X_edits x) (M_edits x) s := by
  rcases z_inX (x := x) (s := s) 1 120 (by omega) (by omega) with h1 | ⟨h1, n, hn1, hn2, rfl⟩
  · have h1 : M_in x 1 120 s = 0 := h1
    refine y_same h (-1) ?_ ?_
    · unfold X_edits; rw [X_within_eq, if_pos h1]
    · unfold M_edits; rw [if_pos h1]
  have hin : ∀ t, ¬ M_in (nI n) 1 120 t = 0 := fun t => by
    show ¬ M_in (nI n) (nI 1) (nI 120) s = 0
    rw [h1]; decide
  obtain ⟨l, B, hl, e1, e2, hB, eX, eM⟩ := y_tpB h.2.2.2.1
  by_cases c : l < n
  · refine y_same h (-1) ?_ ?_
    · unfold X_edits
      rw [X_within_eq, if_neg (hin s), if_pos (by rw [X_holds_n hl (by omega) e1]; exact c)]
    · unfold M_edits
      rw [if_neg (hin s), e2, if_neg (by rw [z_le (by omega) (by omega)]; omega)]
  have hhold : ¬ XTa_holds (nI n) s = 0 := by rw [X_holds_n hl (by omega) e1]; exact c
  -- the class
  obtain ⟨a1, a2, a3, a4, a5, a6⟩ := XSt_copyFrom_25_3_eq s
  generalize hs1 : XSt_copyFrom_25_3 s = s1 at a1 a2 a3 a4 a5 a6
  have hX0 : t_X B n 0 (XTa_beginText (nI n) s1) := by
    unfold XTa_beginText
    refine ⟨?_, ?_, ?_, fun k hk => ?_⟩
    · simp (disch := omega) only [r_Ie, r_un, r_u]
      rw [a6 1 1 (by omega) (by omega), e1]
      simp (disch := omega) only [z_lt, if_neg c]
    · simp (disch := omega) only [r_Ie, r_un, r_u]; rfl
    · simp (disch := omega) only [r_Ie, r_un, r_u]
    · simp (disch := omega) only [r_I]; rw [a6 2 k (by omega) (by omega)]; exact eX k (by omega)
  have fX1 : ∀ c j, ¬ (c = 1 ∧ (j = 2 ∨ j = 3 ∨ j = 4 ∨ j = 5)) → (XTa_beginText (nI n) s1).2.1 c j = s1.2.1 c j := fun c j hc => by
    unfold XTa_beginText
    rw [r_two c j (by omega) (by omega), r_two c j (by omega) (by omega)]
  have fX0 : ∀ c j, ¬ (c = 1 ∧ (j = 2 ∨ j = 3 ∨ j = 4 ∨ j = 5)) → ¬ (25 ≤ c ∧ c ≤ 35) → (XTa_beginText (nI n) s1).2.1 c j = s.2.1 c j := fun c j hc hc2 => by
    rw [fX1 c j hc, a6 c j (by omega) (by omega)]
  have mkM : ∀ t : ax_S, (∀ k, t.2.1 67 k &&& 255 = nI (B k)) → (∀ j, j < 291 → t.2.1 64 j = s.2.1 64 j) → ∃ w, M_copies_64_65 (ax_sI (M_beginsText (nI n) t) 63 28 0) = some w ∧ (∀ j, j < 291 → w.2.1 65 j = t.2.1 64 j) ∧ t_M B n 0 w ∧ w.2.1 63 28 = nI 0 ∧ t_R (XTa_beginText (nI n) s1) w ∧ t_W (XTa_beginText (nI n) s1) w ∧ ∀ c j, c ≠ 65 → ¬ (c = 63 ∧ (j = 6 ∨ j = 7 ∨ j = 11 ∨ j = 13 ∨ j = 28)) → w.2.1 c j = t.2.1 c j := fun t ht ht2 => by
    obtain ⟨u, b1, b2, b3, b4, b5⟩ := m_prep n t ht
    refine ⟨u, b1, b2, b3, b4, ?_, fun p hp => ?_, b5⟩
    · intro i hi
      have h9 := h.1.1 i hi
      simp only [v_ok, vX, vM] at h9 ⊢
      have q : ∀ k, k < 5 → (XTa_beginText (nI n) s1).2.1 (27 + k) i = s.2.1 (3 + 2 + k) i := fun k hk => by
        rw [fX1 _ _ (by omega)]; exact a1 k i hk hi
      have r : ∀ j, j < 60 → u.2.1 64 j = s.2.1 64 j := fun j hj => by rw [b5 _ _ (by omega) (by omega), ht2 j (by omega)]
      rw [q 0 (by omega), q 1 (by omega), q 2 (by omega), q 3 (by omega), q 4 (by omega), r _ (by omega), r (12 * 1 + i) (by omega), r (12 * 2 + i) (by omega), r (12 * 3 + i) (by omega), r (12 * 4 + i) (by omega)]
      exact h9
    · have h9 := h.1.2.1 p hp
      have q : (XTa_beginText (nI n) s1).2.1 32 p = s.2.1 10 p := by rw [fX1 _ _ (by omega)]; exact a2 0 p (by omega) hp
      rw [q, b5 _ _ (by omega) (by omega), ht2 _ (by omega)]
      exact ⟨h9.1, h9.2.1⟩
  have h53 : (XTa_beginText (nI n) s1).2.1 53 1 = nI 20 := by rw [fX0 _ _ (by omega) (by omega)]; exact h.2.2.2.2.2.2.1
  obtain ⟨w0, -, -, m0, m00, m000, m0000, -⟩ := mkM s eM (fun _ _ => rfl)
  obtain ⟨r, tX, -, -, -, -, g1, -, -, -, pX, -, -⟩ := t_eloop hB (by omega) 20 0 0 _ w0 (by omega) hX0 m0 m000 m0000 (by omega) h53 m00 70000 70000 (by omega) (by omega)
  have hXr : XLiRe_readLines_53 (nI n) s1 = some (r, tX) := by
    unfold XLiRe_readLines_53
    have g1 : XLiRe_readLines_53_l10 70000 0 (XTa_beginText (nI n) s1) = some (r, tX) := g1
    rw [g1]
  have fT : ∀ c j, ¬ (c = 1 ∧ (j = 2 ∨ j = 3 ∨ j = 4 ∨ j = 5)) → ¬ (25 ≤ c ∧ c ≤ 35) → tX.2.1 c j = s.2.1 c j := fun c j q1 q2 => by
    rw [pX c j (by omega) (by omega), fX0 c j q1 q2]
  have both : ∀ t : ax_S, (∀ k, t.2.1 67 k &&& 255 = nI (B k)) → (∀ j, j < 291 → t.2.1 64 j = s.2.1 64 j) → t.2.1 63 5 = nI l →
      ∃ y t4, (M_edits (nI n) t = some (y, t4)) ∧ y = r ∧ t4.2.1 63 5 = 0 ∧ (∀ c j, c ≠ 65 → c ≠ 64 → ¬ (c = 63 ∧ (j = 5 ∨ j = 6 ∨ j = 7 ∨ j = 8 ∨ j = 9 ∨ j = 11 ∨ j = 13 ∨ j = 28)) → t4.2.1 c j = t.2.1 c j) ∧
        ((r ≤ 0 ∧ ∀ j, j < 291 → t4.2.1 64 j = s.2.1 64 j) ∨ (¬ r ≤ 0 ∧ t_R tX t4 ∧ t_W tX t4 ∧ ∀ j, 76 ≤ j → j < 291 → t4.2.1 64 j = s.2.1 64 j)) := fun t ht ht2 ht3 => by
    obtain ⟨w, b1, b3, b4, b5, b6, b6', b7⟩ := mkM t ht ht2
    obtain ⟨r', tX', y0, v, y, tM, f1, f2, f3, -, -, pM, f4⟩ := t_eloop hB (by omega) 20 0 0 _ w (by omega) hX0 b4 b6 b6' (by omega) h53 b5 70000 70000 (by omega) (by omega)
    rw [g1] at f1
    obtain ⟨rfl, rfl⟩ : r = r' ∧ tX = tX' := by simpa using f1
    have hM : M_edits (nI n) t = (if y = 0 then (match M_copies_65_64 (ax_sI tM 63 5 0) with
        | none => none
        | some s11 => some (s11.2.1 63 8, s11)) else some (tM.2.1 63 28, ax_sI tM 63 5 0)) := by
      unfold M_edits
      rw [if_neg (hin t), ht3, if_pos (by rw [z_le (by omega) (by omega)]; omega), b1]
      simp only [f2, f3]
      generalize M_copies_65_64 (ax_sI tM 63 5 0) = o
      cases o <;> rfl
    rcases f4 with ⟨rfl, K, hK1, hK2, rfl, f5, f6, f7⟩ | ⟨rfl, q, p, q1, q2, q3, rfl, f5⟩
    · refine ⟨tM.2.1 63 28, ax_sI tM 63 5 0, by rw [hM, if_neg (by decide)], f5, by rw [r_Ie, r_u], fun c j d1 d2 d3 => by rw [r_one c j (by omega), pM c j (by omega) (by omega), b7 c j d1 (by omega)], Or.inr ⟨by rw [z_le0 (by omega)]; omega, R_KN f6 (fun _ _ _ _ => rfl) (fun j _ => by rw [r_I (by omega)]), W_KN f7 (fun _ => rfl) (fun j _ _ => by rw [r_I (by omega)]), fun j d1 d2 => ?_⟩⟩
      rw [r_I (by omega), pM _ _ (by omega) (by omega), b7 _ _ (by omega) (by omega)]
      exact ht2 j d2
    · obtain ⟨t4, d1, d2, d3⟩ := M_copies_65_64_eq (ax_sI tM 63 5 0)
      refine ⟨t4.2.1 63 8, t4, by rw [hM, if_pos rfl, d1], ?_, ?_, fun c j e1 e2 e3 => ?_, Or.inl ⟨(t_fc_ne q1 q2 q3).2, fun j hj => ?_⟩⟩
      · rw [d3 63 (by omega), r_one _ _ (by omega)]; exact f5
      · rw [d3 63 (by omega), r_Ie, r_u]
      · rw [d3 c (by omega), r_one c j (by omega), pM c j (by omega) (by omega), b7 c j e1 (by omega)]
      · rw [d2 j hj, r_I (by omega), pM _ _ (by omega) (by omega), b3 j hj]; exact ht2 j hj
  have hX : X_edits (nI n) s = if r ≤ 0 then some (r, XTa_clear tX) else some (r, XSt_copyFrom_3_25 (XTa_clear tX)) := by
    unfold X_edits
    rw [X_within_eq, if_neg (hin s), if_neg hhold, hs1]
    simp only [hXr]
  have fC : ∀ c j, ¬ (c = 1 ∧ (j = 1 ∨ j = 2 ∨ j = 3 ∨ j = 4 ∨ j = 5)) → ¬ (25 ≤ c ∧ c ≤ 35) → (XTa_clear tX).2.1 c j = s.2.1 c j := fun c j q1 q2 => by
    unfold XTa_clear
    rw [r_one c j (by omega), fT c j (by omega) q2]
  have fC0 : ∀ c j, ¬ (c = 1 ∧ j = 1) → (XTa_clear tX).2.1 c j = tX.2.1 c j := fun c j q => by
    unfold XTa_clear
    rw [r_one c j (by omega)]
  have fC1 : (XTa_clear tX).2.1 1 1 = 0 := by unfold XTa_clear; rw [r_Ie, r_u]
  by_cases hr : r ≤ 0
  · obtain ⟨y, t4, i1, rfl, i2, i3, i4⟩ := both (XTa_clear tX) (fun k => by rw [fC _ _ (by omega) (by omega)]; exact eM k) (fun j hj => fC _ _ (by omega) (by omega)) (by rw [fC _ _ (by omega) (by omega)]; exact e2)
    refine ⟨y, XTa_clear tX, t4, by rw [hX, if_pos hr], i1, ?_⟩
    rcases i4 with ⟨-, i4⟩ | ⟨i4, -⟩
    · have e : ∀ c j, c ≠ 65 → c ≠ 64 → ¬ (c = 63 ∧ (j = 5 ∨ j = 6 ∨ j = 7 ∨ j = 8 ∨ j = 9 ∨ j = 11 ∨ j = 13 ∨ j = 28)) → ¬ (c = 1 ∧ (j = 1 ∨ j = 2 ∨ j = 3 ∨ j = 4 ∨ j = 5)) → ¬ (25 ≤ c ∧ c ≤ 35) → t4.2.1 c j = s.2.1 c j := fun c j d1 d2 d3 d4 d5 => by rw [i3 c j d1 d2 d3, fC c j d4 d5]
      refine y_emp2 h (g_St h.1 (fun c j _ _ => e c j (by omega) (by omega) (by omega) (by omega) (by omega)) (e _ _ (by omega) (by omega) (by omega) (by omega) (by omega)) (e _ _ (by omega) (by omega) (by omega) (by omega) (by omega)) i4) (by rw [i3 _ _ (by omega) (by omega) (by omega)]; exact fC1) i2 fun c j k => e c j (by omega) (by omega) (by omega) (by omega) (by omega)
    · exact absurd hr i4
  · obtain ⟨p1, p2, p3, p4, p5, p6⟩ := XSt_copyFrom_3_25_eq (XTa_clear tX)
    generalize XSt_copyFrom_3_25 (XTa_clear tX) = sE at hX p1 p2 p3 p4 p5 p6
    have fD : ∀ c j, ¬ (c = 1 ∧ (j = 1 ∨ j = 2 ∨ j = 3 ∨ j = 4 ∨ j = 5)) → ¬ (25 ≤ c ∧ c ≤ 35) → ¬ (5 ≤ c ∧ c ≤ 13) → ¬ (c = 3 ∧ (j = 5 ∨ j = 6)) → sE.2.1 c j = s.2.1 c j := fun c j q1 q2 q3 q4 => by
      rw [p6 c j (by omega) q4, fC c j q1 q2]
    obtain ⟨y, t4, i1, rfl, i2, i3, i4⟩ := both sE (fun k => by rw [fD _ _ (by omega) (by omega) (by omega) (by omega)]; exact eM k) (fun j hj => fD _ _ (by omega) (by omega) (by omega) (by omega)) (by rw [fD _ _ (by omega) (by omega) (by omega) (by omega)]; exact e2)
    refine ⟨y, _, t4, by rw [hX, if_neg hr], i1, ?_⟩
    rcases i4 with ⟨i4, -⟩ | ⟨-, i4, i6, i5⟩
    · exact absurd i4 hr
    · have e : ∀ c j, c ≠ 65 → c ≠ 64 → ¬ (c = 63 ∧ (j = 5 ∨ j = 6 ∨ j = 7 ∨ j = 8 ∨ j = 9 ∨ j = 11 ∨ j = 13 ∨ j = 28)) → ¬ (c = 1 ∧ (j = 1 ∨ j = 2 ∨ j = 3 ∨ j = 4 ∨ j = 5)) → ¬ (25 ≤ c ∧ c ≤ 35) → ¬ (5 ≤ c ∧ c ≤ 13) → ¬ (c = 3 ∧ (j = 5 ∨ j = 6)) → t4.2.1 c j = s.2.1 c j := fun c j d1 d2 d3 d4 d5 d6 d7 => by rw [i3 c j d1 d2 d3, fD c j d4 d5 d6 d7]
      have rowX : ∀ k i, k < 5 → i < 12 → t4.2.1 (5 + k) i = tX.2.1 (27 + k) i := fun k i hk hi => by
        rw [i3 _ _ (by omega) (by omega) (by omega)]
        have := p1 k i hk hi
        rw [show 3 + 2 + k = 5 + k by omega, show 25 + 2 + k = 27 + k by omega] at this
        rw [this, fC0 _ _ (by omega)]
      have rowP : ∀ k p, k < 3 → p < 16 → t4.2.1 (10 + k) p = tX.2.1 (32 + k) p := fun k i hk hi => by
        rw [i3 _ _ (by omega) (by omega) (by omega)]
        have := p2 k i hk hi
        rw [show 3 + 7 + k = 10 + k by omega, show 25 + 7 + k = 32 + k by omega] at this
        rw [this, fC0 _ _ (by omega)]
      have oldP : ∀ k p, 0 < k → k < 3 → p < 16 → tX.2.1 (32 + k) p = s.2.1 (10 + k) p := fun k p hk0 hk hp => by
        rw [pX _ _ (by omega) (by omega), fX1 _ _ (by omega)]
        have := a2 k p hk hp
        rw [show 3 + 7 + k = 10 + k by omega, show 25 + 7 + k = 32 + k by omega] at this
        exact this
      refine y_emp2 h ⟨?_, ?_, ?_, ?_⟩ (by rw [i3 _ _ (by omega) (by omega) (by omega), p6 1 1 (by omega) (by omega)]; exact fC1) i2 fun c j k => e c j (by omega) (by omega) (by omega) (by omega) (by omega) (by omega) (by omega)
      · intro i hi
        have h9 := i4 i hi
        simp only [v_ok, vX, vM] at h9 ⊢
        rw [← rowX 0 i (by omega) hi, ← rowX 1 i (by omega) hi, ← rowX 2 i (by omega) hi, ← rowX 3 i (by omega) hi, ← rowX 4 i (by omega) hi] at h9
        exact h9
      · intro p hp
        have h9 := h.1.2.1 p hp
        have h8 := i6 p hp
        have r0 := rowP 0 p (by omega) hp
        have r1 := rowP 1 p (by omega) hp
        have r2 := rowP 2 p (by omega) hp
        rw [oldP 1 p (by omega) (by omega) hp] at r1
        rw [oldP 2 p (by omega) (by omega) hp] at r2
        refine ⟨r0.trans h8.1, h8.2, ?_, ?_⟩
        · show t4.2.1 (10 + 1) p = _
          rw [r1, i5 _ (by omega) (by omega)]; exact h9.2.2.1
        · show t4.2.1 (10 + 2) p = _
          rw [r2, i5 _ (by omega) (by omega)]; exact h9.2.2.2
      · intro j w hj hw
        show t4.2.1 13 _ = _
        rw [i3 13 _ (by omega) (by omega) (by omega), i5 _ (by omega) (by omega), ← h.1.2.2.1 j w hj hw]
        have q1 : sE.2.1 13 (6 * j + w) = (XTa_clear tX).2.1 35 (6 * j + w) := p3 _ (by omega)
        have q2 : s1.2.1 35 (6 * j + w) = s.2.1 13 (6 * j + w) := a3 _ (by omega)
        rw [q1, fC0 _ _ (by omega), pX _ _ (by omega) (by omega), fX1 _ _ (by omega), q2]
      · obtain ⟨d, x, h6, h7, h8, h9, h10, h11, h12⟩ := h.1.2.2.2
        refine ⟨d, x, h6, h7, ?_, ?_, ?_, ?_, ?_⟩
        · rw [i3 3 5 (by omega) (by omega) (by omega), p4, fC0 _ _ (by omega), pX _ _ (by omega) (by omega), fX1 _ _ (by omega), a4]; exact h8
        · rw [i5 _ (by omega) (by omega)]; exact h9
        · rw [i5 _ (by omega) (by omega)]; exact h10
        · rw [i3 3 6 (by omega) (by omega) (by omega), p5, fC0 _ _ (by omega), pX _ _ (by omega) (by omega), fX1 _ _ (by omega), a5]; exact h11
        · rw [i5 _ (by omega) (by omega)]; exact h12
