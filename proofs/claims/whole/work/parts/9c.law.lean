/-! law: the call -/
theorem X_cp (s : ax_S) : (∀ k q, k < 4 → q < 16 → (XLa_copyFrom_36_44 s).2.1 (37 + k) q = s.2.1 (45 + k) q) ∧ (∀ i, i < 256 → (XLa_copyFrom_36_44 s).2.1 41 i = s.2.1 49 i ∧ (XLa_copyFrom_36_44 s).2.1 42 i = s.2.1 50 i) ∧ (XLa_copyFrom_36_44 s).2.1 36 7 = s.2.1 44 7 ∧ ∀ c j, ¬ (37 ≤ c ∧ c ≤ 42) → ¬ (c = 36 ∧ (j = 7 ∨ j = 8)) → (XLa_copyFrom_36_44 s).2.1 c j = s.2.1 c j := by
  unfold XLa_copyFrom_36_44
  refine ⟨fun k q hk hq => ?_, fun i hi => ⟨?_, ?_⟩, ?_, fun c j h1 h2 => ?_⟩
  · have hk4 : k = 0 ∨ k = 1 ∨ k = 2 ∨ k = 3 := by omega
    rcases hk4 with rfl | rfl | rfl | rfl
    · simp (disch := omega) only [r_I, r_A, r_Ae]
      exact r_cpy hq
    · simp (disch := omega) only [r_I, r_A, r_Ae]
      exact r_cpy hq
    · simp (disch := omega) only [r_I, r_A, r_Ae]
      exact r_cpy hq
    · simp (disch := omega) only [r_I, r_A, r_Ae]
      exact r_cpy hq
  · simp (disch := omega) only [r_I, r_A, r_Ae]
    exact r_cpy hi
  · simp (disch := omega) only [r_I, r_A, r_Ae]
    exact r_cpy hi
  · simp (disch := omega) only [r_Ie, r_un, r_u, r_A]
  · rw [r_two c j (by omega) (by omega), r_A (by omega), r_A (by omega), r_A (by omega), r_A (by omega), r_A (by omega), r_A (by omega)]
/-- the drafts of both, copied, are one law -/
theorem dr_rule {tX tM : ax_S} {f : Nat → Nat → Int32} {q R c : Nat} (hq : q < R) (hR : R ≤ 16) (hc : c ≤ 240) (h : l_dr tX tM q c) (e1 : ∀ k q, k < 4 → q < R → f (37 + k) q = tX.2.1 (45 + k) q) (e2 : ∀ i, i < c → f 41 i = tX.2.1 49 i ∧ f 42 i = tX.2.1 50 i) (e3 : ∀ k q, k < 4 → q < R → f (75 + k) q = tM.2.1 (70 + k) q) (e4 : ∀ i, i < c → f 74 i = tM.2.1 68 i) : f 37 q = f 75 q ∧ ∃ V W, l_rule f q V W := by
  obtain ⟨V, W, b0, b1, b2, h1, h2, h3, h4, h5, h6, h7, h8, h9, h10, h11, h12, h13⟩ := h
  have x0 : f 37 q = tX.2.1 45 q := e1 0 q (by omega) hq
  have x1 : f 38 q = tX.2.1 46 q := e1 1 q (by omega) hq
  have x2 : f 39 q = tX.2.1 47 q := e1 2 q (by omega) hq
  have x3 : f 40 q = tX.2.1 48 q := e1 3 q (by omega) hq
  have m0 : f 75 q = tM.2.1 70 q := e3 0 q (by omega) hq
  have m1 : f 76 q = tM.2.1 71 q := e3 1 q (by omega) hq
  have m2 : f 77 q = tM.2.1 72 q := e3 2 q (by omega) hq
  have m3 : f 78 q = tM.2.1 73 q := e3 3 q (by omega) hq
  refine ⟨by rw [x0, m0]; exact h10, V, W, ⟨b1, b2 - b1, 30, _, _, by rw [x2]; exact h5, by rw [x3, show b1 + (b2 - b1) = b2 by omega]; exact h6, h11, by omega, by omega, fun i _ hi => e2 i (by omega)⟩, ⟨b1, b2 - b1, 30, _, by rw [m2]; exact h8, by rw [m3, show b1 + (b2 - b1) = b2 by omega]; exact h9, h12, by omega, by omega, fun i _ hi => e4 i (by omega)⟩, fun hk => ⟨?_, ?_⟩⟩
  · rw [x0] at hk
    exact ⟨b0, b1 - b0, 30, _, _, by rw [x1]; exact h4, by rw [x2, show b0 + (b1 - b0) = b1 by omega]; exact h5, (h13 hk).1, by omega, by omega, fun i _ hi => e2 i (by omega)⟩
  · rw [x0] at hk
    exact ⟨b0, b1 - b0, 30, _, by rw [m1]; exact h7, by rw [m2, show b0 + (b1 - b0) = b1 by omega]; exact h8, (h13 hk).2, by omega, by omega, fun i _ hi => e4 i (by omega)⟩
theorem y_lawc (x : Int32) (s : ax_S) (h : y_inv s.2.1) : y_sim (X_law x) (M_law x) s := by
  rcases z_inX (x := x) (s := s) 1 240 (by omega) (by omega) with h1 | ⟨h1, n, hn1, hn2, rfl⟩
  · have h1 : M_in x 1 240 s = 0 := h1
    refine y_same h (-1) ?_ ?_
    · unfold X_law; rw [X_within_eq, if_pos h1]
    · unfold M_law; rw [if_pos h1]
  have hin : ∀ t, ¬ M_in (nI n) 1 240 t = 0 := fun t => by
    show ¬ M_in (nI n) (nI 1) (nI 240) s = 0
    rw [h1]; decide
  obtain ⟨l, B, hl, e1, e2, hB, eX, eM⟩ := y_tpB h.2.2.2.1
  by_cases c : l < n
  · refine y_same h (-1) ?_ ?_
    · unfold X_law
      rw [X_within_eq, if_neg (hin s), if_pos (by rw [X_holds_n hl (by omega) e1]; exact c)]
    · unfold M_law
      rw [if_neg (hin s), e2, if_neg (by rw [z_le (by omega) (by omega)]; omega)]
  have hhold : ¬ XTa_holds (nI n) s = 0 := by rw [X_holds_n hl (by omega) e1]; exact c
  -- the class
  generalize hs0 : XTa_beginText (nI n) (XLa_clear_44 s) = s0
  have f0 : ∀ k j, ¬ (k = 1 ∧ (j = 2 ∨ j = 3 ∨ j = 4 ∨ j = 5)) → ¬ (k = 44 ∧ (j = 7 ∨ j = 8)) → s0.2.1 k j = s.2.1 k j := fun k j h1 h2 => by
    rw [← hs0]
    unfold XTa_beginText XLa_clear_44
    rw [r_two k j (by omega) (by omega), r_two k j (by omega) (by omega), r_two k j (by omega) (by omega)]
  have hX0 : l_cX B n 0 0 s0 := by
    rw [← hs0]
    unfold XTa_beginText XLa_clear_44
    refine ⟨⟨?_, ?_, ?_, fun k hk => ?_⟩, ?_⟩
    · simp (disch := omega) only [r_Ie, r_un, r_u, r_I]
      rw [e1]
      simp (disch := omega) only [z_lt, if_neg c]
    · simp (disch := omega) only [r_Ie, r_un, r_u, r_I]; rfl
    · simp (disch := omega) only [r_Ie, r_un, r_u, r_I]
    · simp (disch := omega) only [r_I]; exact eX k (by omega)
    · simp (disch := omega) only [r_Ie, r_un, r_u, r_I]; rfl
  have h07 : s0.2.1 44 7 = nI 0 := by
    rw [← hs0]
    unfold XTa_beginText XLa_clear_44
    simp (disch := omega) only [r_Ie, r_un, r_u, r_I]
    rfl
  have h054 : s0.2.1 54 1 = nI 16 := by rw [f0 _ _ (by omega) (by omega)]; exact h.2.2.2.2.2.2.2
  -- the reference, from any store with this tape
  have mkM : ∀ t : ax_S, (∀ k, t.2.1 67 k &&& 255 = nI (B k)) → t_M B n 0 (M_beginsText (nI n) t) ∧ (M_beginsText (nI n) t).2.1 63 11 = nI 0 ∧ (M_beginsText (nI n) t).2.1 63 13 = nI 0 ∧ ∀ k j, ¬ (k = 63 ∧ (j = 6 ∨ j = 7 ∨ j = 11 ∨ j = 13)) → (M_beginsText (nI n) t).2.1 k j = t.2.1 k j := fun t ht => by
    unfold M_beginsText
    refine ⟨⟨?_, ?_, fun k => ?_⟩, ?_, ?_, fun k j h1 => ?_⟩
    · simp (disch := omega) only [r_Ie, r_un, r_u]
    · simp (disch := omega) only [r_Ie, r_un, r_u]; rfl
    · simp (disch := omega) only [r_I]; exact ht k
    · simp (disch := omega) only [r_Ie, r_un, r_u]; rfl
    · simp (disch := omega) only [r_Ie, r_u]; rfl
    · rw [r_two k j (by omega) (by omega), r_two k j (by omega) (by omega)]
  obtain ⟨b1, b2, b3, -⟩ := mkM s eM
  obtain ⟨x, tX, -, -, -, -, g1, -, -, -, kX, -, -⟩ := l_lloop hB hn2 16 0 s0 _ 0 0 70000 70000 (by omega) (by omega) (by omega) hX0 h07 h054 b1 b2 b3 (fun q hq => absurd hq (Nat.not_lt_zero _)) (by omega) (by omega)
  have hXr : XLiRe_readLines_54 (nI n) (XLa_clear_44 s) = some (x, tX) := by
    unfold XLiRe_readLines_54
    rw [hs0]
    have g1 : XLiRe_readLines_54_l10 70000 0 s0 = some (x, tX) := g1
    rw [g1]
  have fT : ∀ k j, ¬ (k = 1 ∧ (j = 2 ∨ j = 3 ∨ j = 4 ∨ j = 5)) → ¬ (k = 44 ∧ (j = 7 ∨ j = 8)) → ¬ (45 ≤ k ∧ k ≤ 50) → tX.2.1 k j = s.2.1 k j := fun k j q1 q2 q3 => by
    rw [kX.2 k j (by omega) q2 q3, f0 k j q1 q2]
  have hX : X_law (nI n) s = if x ≤ 0 then some (x, XTa_clear tX) else some (x, XLa_copyFrom_36_44 (XTa_clear tX)) := by
    unfold X_law
    rw [X_within_eq, if_neg (hin s), if_neg hhold]
    simp only [hXr]
  have fC0 : ∀ k j, ¬ (k = 1 ∧ j = 1) → (XTa_clear tX).2.1 k j = tX.2.1 k j := fun k j q => by
    unfold XTa_clear
    rw [r_one k j (by omega)]
  have fC1 : (XTa_clear tX).2.1 1 1 = 0 := by unfold XTa_clear; rw [r_Ie, r_u]
  have fC : ∀ k j, ¬ (k = 1 ∧ (j = 1 ∨ j = 2 ∨ j = 3 ∨ j = 4 ∨ j = 5)) → ¬ (k = 44 ∧ (j = 7 ∨ j = 8)) → ¬ (45 ≤ k ∧ k ≤ 50) → (XTa_clear tX).2.1 k j = s.2.1 k j := fun k j q1 q2 q3 => by
    rw [fC0 k j (by omega), fT k j (by omega) q2 q3]
  -- both
  have both : ∀ t : ax_S, (∀ k, t.2.1 67 k &&& 255 = nI (B k)) → t.2.1 63 5 = nI l →
      ∃ t4, M_law (nI n) t = some (x, t4) ∧ t4.2.1 63 5 = 0 ∧ (∀ k j, ¬ (k = 63 ∧ (5 ≤ j ∧ j ≤ 14)) → ¬ (68 ≤ k ∧ k ≤ 78) → t4.2.1 k j = t.2.1 k j) ∧
        ((x ≤ 0 ∧ (∀ k j, 74 ≤ k → k ≤ 78 → t4.2.1 k j = t.2.1 k j) ∧ t4.2.1 63 14 = t.2.1 63 14) ∨
         (¬ x ≤ 0 ∧ ∃ R c' tM, R ≤ 16 ∧ c' ≤ 240 ∧ tX.2.1 44 7 = nI R ∧ t4.2.1 63 14 = nI R ∧ (∀ q, q < R → l_dr tX tM q c') ∧ (∀ k q, k < 4 → q < R → t4.2.1 (75 + k) q = tM.2.1 (70 + k) q) ∧ ∀ i, i < c' → t4.2.1 74 i = tM.2.1 68 i)) := fun t ht ht3 => by
    obtain ⟨d1, d2, d3, d4⟩ := mkM t ht
    obtain ⟨x', tX', y, tM, v1, s2, m1, m2, m3, m4, -, m6, m7⟩ := l_lloop hB hn2 16 0 s0 _ 0 0 70000 70000 (by omega) (by omega) (by omega) hX0 h07 h054 d1 d2 d3 (fun q hq => absurd hq (Nat.not_lt_zero _)) (by omega) (by omega)
    rw [g1] at m1
    obtain ⟨rfl, rfl⟩ : x = x' ∧ tX = tX' := by simpa using m1
    have hM : M_law (nI n) t = (if y = 0 then some (tM.2.1 63 8, ax_sI tM 63 5 0) else (match M_law_l95 70000 (0 : Int32) (ax_sI (ax_sI tM 63 5 (0 : Int32)) 63 14 (tM.2.1 63 13)) with
        | none => none
        | some s9 =>
          match M_law_l123 70000 (0 : Int32) s9 with
          | none => none
          | some s10 => some ((s10.2.1 63 13), s10))) := by
      unfold M_law
      rw [if_neg (hin t), ht3, if_pos (by rw [z_le (by omega) (by omega)]; omega), m2]
      simp only [m4]
      generalize M_law_l95 70000 0 (ax_sI (ax_sI tM 63 5 0) 63 14 (tM.2.1 63 13)) = o
      cases o with
      | none => rfl
      | some s9 =>
        simp only []
        generalize M_law_l123 70000 0 s9 = o2
        cases o2 <;> rfl
    have fM : ∀ k j, ¬ (k = 63 ∧ (6 ≤ j ∧ j ≤ 13)) → ¬ (68 ≤ k ∧ k ≤ 73) → tM.2.1 k j = t.2.1 k j := fun k j q1 q2 => by
      rw [m6 k j (by omega) q2, d4 k j (by omega)]
    rcases m7 with ⟨rfl, R, c', n1, n2, n3, n4, n5, n6, n7, n8, n9⟩ | ⟨rfl, q, p, q1, q2, q3, q4, q5⟩
    · rw [hM, if_neg (by decide), n7]
      generalize hu : ax_sI (ax_sI tM 63 5 (0 : Int32)) 63 14 (nI R) = u
      have fu : ∀ k j, ¬ (k = 63 ∧ (j = 5 ∨ j = 14)) → u.2.1 k j = tM.2.1 k j := fun k j q => by rw [← hu]; exact r_two k j (by omega) (by omega)
      obtain ⟨u2, i1, i2, i3⟩ := M_l95_eq u c' (by omega) (by rw [fu _ _ (by omega)]; exact n8)
      obtain ⟨u3, j1, j2, j3⟩ := M_l123_eq u2 R n2 (by rw [i3 _ _ (by omega), fu _ _ (by omega)]; exact n7)
      rw [i1]
      simp only [j1]
      refine ⟨u3, by rw [j3 _ _ (by omega), i3 _ _ (by omega), fu _ _ (by omega), n7, n4], ?_, fun k j e1 e2 => ?_, Or.inr ⟨by rw [n4, z_le0 (by omega)]; omega, R, c', tM, n2, n3, n5, ?_, n9, fun k q hk hq => ?_, fun i hi => ?_⟩⟩
      · rw [j3 _ _ (by omega), i3 _ _ (by omega), ← hu, r_one _ _ (by omega), r_Ie, r_u]
      · rw [j3 _ _ (by omega), i3 _ _ (by omega), fu _ _ (by omega), fM _ _ (by omega) (by omega)]
      · rw [j3 _ _ (by omega), i3 _ _ (by omega), ← hu, r_Ie, r_u]
      · rw [j2 k q hk hq, i3 _ _ (by omega), fu _ _ (by omega)]
      · rw [j3 _ _ (by omega), i2 i hi, fu _ _ (by omega)]
    · refine ⟨ax_sI tM 63 5 0, by rw [hM, if_pos rfl, q5, q4], by rw [r_Ie, r_u], fun k j e1 e2 => ?_, Or.inl ⟨by rw [q4]; exact (t_fc_ne q1 q2 q3).2, fun k j e1 e2 => ?_, ?_⟩⟩
      · rw [r_one _ _ (by omega), fM _ _ (by omega) (by omega)]
      · rw [r_one _ _ (by omega), fM _ _ (by omega) (by omega)]
      · rw [r_one _ _ (by omega), fM _ _ (by omega) (by omega)]
  by_cases hr : x ≤ 0
  · obtain ⟨t4, i1, i2, i3, i4⟩ := both (XTa_clear tX) (fun k => by rw [fC _ _ (by omega) (by omega) (by omega)]; exact eM k) (by rw [fC _ _ (by omega) (by omega) (by omega)]; exact e2)
    refine ⟨x, _, t4, by rw [hX, if_pos hr], i1, ?_⟩
    rcases i4 with ⟨-, i4, i5⟩ | ⟨i4, -⟩
    · have e : ∀ k j, ¬ (k = 63 ∧ (5 ≤ j ∧ j ≤ 13)) → ¬ (68 ≤ k ∧ k ≤ 73) → ¬ (k = 1 ∧ (j = 1 ∨ j = 2 ∨ j = 3 ∨ j = 4 ∨ j = 5)) → ¬ (k = 44 ∧ (j = 7 ∨ j = 8)) → ¬ (45 ≤ k ∧ k ≤ 50) → t4.2.1 k j = s.2.1 k j := fun k j d1 d2 d3 d4 d5 => by
        rw [← fC k j d3 d4 d5]
        by_cases c1 : 74 ≤ k ∧ k ≤ 78
        · exact i4 k j c1.1 c1.2
        · by_cases c2 : k = 63 ∧ j = 14
          · rw [c2.1, c2.2]; exact i5
          · exact i3 k j (by omega) (by omega)
      exact y_emp2 h (g_now h.1 fun k j hk => e k j (by omega) (by omega) (by omega) (by omega) (by omega)) (by rw [i3 _ _ (by omega) (by omega)]; exact fC1) i2 fun k j hk => e k j (by omega) (by omega) (by omega) (by omega) (by omega)
    · exact absurd hr i4
  · obtain ⟨p1, p2, p3, p4⟩ := X_cp (XTa_clear tX)
    generalize XLa_copyFrom_36_44 (XTa_clear tX) = sE at hX p1 p2 p3 p4
    have fD : ∀ k j, ¬ (k = 1 ∧ (j = 1 ∨ j = 2 ∨ j = 3 ∨ j = 4 ∨ j = 5)) → ¬ (k = 44 ∧ (j = 7 ∨ j = 8)) → ¬ (45 ≤ k ∧ k ≤ 50) → ¬ (37 ≤ k ∧ k ≤ 42) → ¬ (k = 36 ∧ (j = 7 ∨ j = 8)) → sE.2.1 k j = s.2.1 k j := fun k j q1 q2 q3 q4 q5 => by
      rw [p4 k j q4 q5, fC k j q1 q2 q3]
    obtain ⟨t4, i1, i2, i3, i4⟩ := both sE (fun k => by rw [fD _ _ (by omega) (by omega) (by omega) (by omega) (by omega)]; exact eM k) (by rw [fD _ _ (by omega) (by omega) (by omega) (by omega) (by omega)]; exact e2)
    refine ⟨x, _, t4, by rw [hX, if_neg hr], i1, ?_⟩
    rcases i4 with ⟨i4, -⟩ | ⟨-, R, c', tM, n1, n2, n3, n4, n5, n6, n7⟩
    · exact absurd i4 hr
    · have e : ∀ k j, ¬ (k = 63 ∧ (5 ≤ j ∧ j ≤ 14)) → ¬ (68 ≤ k ∧ k ≤ 78) → ¬ (k = 1 ∧ (j = 1 ∨ j = 2 ∨ j = 3 ∨ j = 4 ∨ j = 5)) → ¬ (k = 44 ∧ (j = 7 ∨ j = 8)) → ¬ (45 ≤ k ∧ k ≤ 50) → ¬ (37 ≤ k ∧ k ≤ 42) → ¬ (k = 36 ∧ (j = 7 ∨ j = 8)) → t4.2.1 k j = s.2.1 k j := fun k j d1 d2 d3 d4 d5 d6 d7 => by
        rw [i3 k j d1 d2, fD k j d3 d4 d5 d6 d7]
      have hlaw : y_law t4.2.1 := by
        have dr : ∀ q, q < R → t4.2.1 37 q = t4.2.1 75 q ∧ ∃ V W, l_rule t4.2.1 q V W := fun q hq =>
          dr_rule (f := t4.2.1) hq n1 n2 (n5 q hq) (fun k q hk hq => by rw [i3 _ _ (by omega) (by omega), p1 k q hk (by omega), fC0 _ _ (by omega)]) (fun i hi => ⟨by rw [i3 _ _ (by omega) (by omega), (p2 i (by omega)).1, fC0 _ _ (by omega)], by rw [i3 _ _ (by omega) (by omega), (p2 i (by omega)).2, fC0 _ _ (by omega)]⟩) n6 n7
        exact l_mk n1 (by rw [i3 _ _ (by omega) (by omega), p3, fC0 _ _ (by omega)]; exact n3) n4 (fun q hq => (dr q hq).1) (fun q hq => (dr q hq).2)
      exact ⟨g_now h.1 fun k j hk => e k j (by omega) (by omega) (by omega) (by omega) (by omega) (by omega) (by omega), g_kp h.2.1 fun k j hk => e k j (by omega) (by omega) (by omega) (by omega) (by omega) (by omega) (by omega), g_bd h.2.2.1 fun k j hk => e k j (by omega) (by omega) (by omega) (by omega) (by omega) (by omega) (by omega), ⟨0, by omega, by rw [i3 _ _ (by omega) (by omega), p4 _ _ (by omega) (by omega)]; exact fC1, i2, fun k hk => absurd hk (Nat.not_lt_zero _)⟩, hlaw, g_ln h.2.2.2.2.2 fun k j hk => e k j (by omega) (by omega) (by omega) (by omega) (by omega) (by omega) (by omega)⟩
