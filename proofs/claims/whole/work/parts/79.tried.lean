/-! tried: the call -/
theorem y_tried (x1 x2 : Int32) (s : ax_S) (h : y_inv s.2.1) : y_sim (X_tried x1 x2) (M_tried x1 x2) s := by
  rcases z_inX (x := x1) (s := s) 1 30 (by omega) (by omega) with h1 | ⟨h1, n, hn1, hn2, rfl⟩
  · have h1 : M_in x1 1 30 s = 0 := h1
    refine y_same h (-1) ?_ ?_
    · unfold X_tried; rw [X_within_eq, if_pos h1]
    · unfold M_tried; rw [if_pos h1]
  have hin : ∀ t, ¬ M_in (nI n) 1 30 t = 0 := fun t => by
    show ¬ M_in (nI n) (nI 1) (nI 30) s = 0
    rw [h1]; decide
  obtain ⟨c1, c2, c3, c4, c5, c6⟩ := XSt_copyFrom_25_3_eq s
  generalize hC : XSt_copyFrom_25_3 s = sC at c1 c2 c3 c4 c5 c6
  obtain ⟨x1, x2'⟩ := d_0XfQ sC
  have hb0 : sC.2.1 0 12 = s.2.1 0 12 := c6 0 12 (by omega) (by omega)
  -- the start of both, from any store of the reference with this story
  have start : ∀ t : ax_S, (∀ j, j < 291 → t.2.1 64 j = s.2.1 64 j) → (∀ c j, (74 ≤ c ∧ c ≤ 78) ∨ (c = 63 ∧ (j = 3 ∨ j = 14)) → t.2.1 c j = s.2.1 c j) → ∃ u, M_copies_64_65 t = some u ∧ (∀ j, j < 291 → u.2.1 65 j = s.2.1 64 j) ∧ (∀ c, c ≠ 65 → u.2.1 c = t.2.1 c) ∧ d_D3Q s.2.1 (s.2.1 0 12) (d_0XQ sC) (d_0M u) := fun t ht ht2 => by
    obtain ⟨u, u1, u2, u3⟩ := M_copies_64_65_eq t
    obtain ⟨v1, v2⟩ := d_0Mf u
    have m64 : ∀ j, j < 291 → (d_0M u).2.1 64 j = s.2.1 64 j := fun j hj => by rw [v1 64 j (by omega), u3 64 (by omega), ht j hj]
    obtain ⟨⟨hF, hP, hA, hD⟩, -, ⟨nb, -, b1, b2⟩, -⟩ := h
    refine ⟨u, u1, fun j hj => by rw [u2 j hj, ht j hj], u3, ⟨fun i hi => ?_, fun p hp => ?_, fun c j hc => by rw [x1 c j (by omega), c6 c j (by omega) (by omega)], fun c j hc => by rw [v1 c j (by omega), u3 c (by omega), ht2 c j (by omega)]⟩, fun j w hj hw => ?_, ?_, by rw [x2'.1, v2.1], by rw [x2'.2.1, v2.2.1], by rw [x2'.2.2.1, v2.2.2.1], by rw [x2'.2.2.2, v2.2.2.2], ?_⟩
    · have h9 := hF i hi
      have a : ∀ k, k < 5 → (d_0XQ sC).2.1 (27 + k) i = s.2.1 (3 + 2 + k) i := fun k hk => by rw [x1 _ _ (by omega)]; exact c1 k i hk hi
      simp only [v_ok, vX, vM] at h9 ⊢
      rw [a 0 (by omega), a 1 (by omega), a 2 (by omega), a 3 (by omega), a 4 (by omega), m64 _ (by omega), m64 (12 * 1 + i) (by omega), m64 (12 * 2 + i) (by omega), m64 (12 * 3 + i) (by omega), m64 (12 * 4 + i) (by omega)]
      exact h9
    · have q0 : (d_0XQ sC).2.1 32 p = s.2.1 (3 + 7) p := by rw [x1 _ _ (by omega)]; exact c2 0 p (by omega) hp
      have q1 : (d_0XQ sC).2.1 33 p = s.2.1 (3 + 8) p := by rw [x1 _ _ (by omega)]; exact c2 1 p (by omega) hp
      have q2 : (d_0XQ sC).2.1 34 p = s.2.1 (3 + 9) p := by rw [x1 _ _ (by omega)]; exact c2 2 p (by omega) hp
      rw [q0, q1, q2, m64 _ (by omega), m64 (76 + p) (by omega), m64 (92 + p) (by omega)]
      exact hP p hp
    · have q : (d_0XQ sC).2.1 35 (6 * j + w) = s.2.1 (3 + 10) (6 * j + w) := by rw [x1 _ _ (by omega)]; exact c3 _ (by omega)
      rw [q, m64 _ (by omega)]
      exact hA j w hj hw
    · obtain ⟨d, x, h1, h2, h3, h4, h5, h6, h7⟩ := hD
      exact ⟨d, x, h1, h2, by rw [x1 25 5 (by omega), c4]; exact h3, by rw [m64 _ (by omega)]; exact h4, by rw [m64 _ (by omega)]; exact h5, by rw [x1 25 6 (by omega), c5]; exact h6, by rw [m64 _ (by omega)]; exact h7⟩
    · rw [v1 63 3 (by omega), u3 63 (by omega), ht2 63 3 (by omega), b2, b1]
  obtain ⟨u0, -, -, -, D0⟩ := start s (fun _ _ => rfl) (fun _ _ _ => rfl)
  obtain ⟨s', t0, a1, -, -, a4, -⟩ := d_days3Q h.2.2.2.2.1 hn2 n 0 (d_0XQ sC) (d_0M u0) (by omega) D0 70000 70000 (by omega) (by omega)
  have fX : ∀ c j, ¬ (27 ≤ c ∧ c ≤ 35) → c ≠ 55 → c ≠ 56 → ¬ (c = 36 ∧ 9 ≤ j ∧ j ≤ 14) → ¬ (c = 25 ∧ 5 ≤ j ∧ j ≤ 10) → s'.2.1 c j = s.2.1 c j := fun c j e1 e2 e3 e4 e5 => by rw [a4 c j (by omega) e2 e3 e4 e5, x1 c j (by omega), c6 c j (by omega) (by omega)]
  obtain ⟨u, u1, u2, u3, D1⟩ := start s' (fun j hj => fX _ _ (by omega) (by omega) (by omega) (by omega) (by omega)) (fun c j e => fX _ _ (by omega) (by omega) (by omega) (by omega) (by omega))
  obtain ⟨s2, t', b1, b2, b3, -, b5⟩ := d_days3Q h.2.2.2.2.1 hn2 n 0 (d_0XQ sC) (d_0M u) (by omega) D1 70000 70000 (by omega) (by omega)
  rw [a1] at b1
  obtain rfl : s' = s2 := by simpa using b1
  obtain ⟨v1, v2⟩ := d_0Mf u
  obtain ⟨t4, k1, k2, k3⟩ := M_copies_65_64_eq t'
  have fM : ∀ c j, c ≠ 64 → c ≠ 65 → c ≠ 79 → c ≠ 80 → ¬ (c = 63 ∧ 29 ≤ j ∧ j ≤ 36) → t4.2.1 c j = s'.2.1 c j := fun c j e1 e2 e3 e4 e5 => by rw [k3 c e1, b5 c j e1 e3 e4 e5, v1 c j (by omega), u3 c e2]
  have f64 : ∀ j, j < 291 → t4.2.1 64 j = s.2.1 64 j := fun j hj => by rw [k2 j hj, b5 65 j (by omega) (by omega) (by omega) (by omega), v1 65 j (by omega), u2 j hj]
  have inv : y_inv t4.2.1 := by
    have e : ∀ c j, c ≠ 64 → c ≠ 65 → c ≠ 79 → c ≠ 80 → ¬ (c = 63 ∧ 29 ≤ j ∧ j ≤ 36) → ¬ (27 ≤ c ∧ c ≤ 35) → c ≠ 55 → c ≠ 56 → ¬ (c = 36 ∧ 9 ≤ j ∧ j ≤ 14) → ¬ (c = 25 ∧ 5 ≤ j ∧ j ≤ 10) → t4.2.1 c j = s.2.1 c j := fun c j e1 e2 e3 e4 e5 e6 e7 e8 e9 e10 => by rw [fM c j e1 e2 e3 e4 e5, fX c j e6 e7 e8 e9 e10]
    exact g_oth h (g_St h.1 (fun c j _ _ => e c j (by omega) (by omega) (by omega) (by omega) (by omega) (by omega) (by omega) (by omega) (by omega) (by omega)) (e 3 5 (by omega) (by omega) (by omega) (by omega) (by omega) (by omega) (by omega) (by omega) (by omega) (by omega)) (e 3 6 (by omega) (by omega) (by omega) (by omega) (by omega) (by omega) (by omega) (by omega) (by omega) (by omega)) f64) fun c j k => e c j (by omega) (by omega) (by omega) (by omega) (by omega) (by omega) (by omega) (by omega) (by omega) (by omega)
  obtain ⟨⟨-, hP, -, -⟩, -, -, e7, e8, e9, e10, -⟩ := b3
  have hlive : XSt_live_25_36 (nI n) (sC.2.1 0 12) sC = some s' := by
    unfold XSt_live_25_36
    rw [hb0]
    have a1 : XSt_live_25_36_l23 70000 (nI n) (s.2.1 0 12) 0 (ax_sI (ax_sI (ax_sI (ax_sI sC 25 7 0) 25 8 0) 25 9 0) 25 10 0) = some s' := a1
    rw [a1]
  have hgo : M_daysGo (nI n) u = some t' := by
    unfold M_daysGo
    have b2 : M_daysGo_l22 70000 (nI n) 0 (ax_sI (ax_sI (ax_sI (ax_sI u 63 33 0) 63 34 0) 63 35 0) 63 36 0) = some t' := b2
    rw [b2]
  rcases z_inX (x := x2) (s := s) 0 3 (by omega) (by omega) with h2 | ⟨h2, w, -, hw, rfl⟩
  · have h2 : M_in x2 0 3 s = 0 := h2
    rcases z_per (x2 - 10) s with ⟨p1, p2⟩ | ⟨p1, p2, p, hp, hxp⟩
    · refine y_same h (-1) ?_ ?_
      · unfold X_tried; rw [X_within_eq, if_neg (hin s), X_within_eq, if_pos h2, if_pos p2]
      · unfold M_tried; rw [if_neg (hin s), if_pos h2, if_pos p1]
    · have hx2 : x2 = nI (10 + p) := by
        have : x2 - 10 + 10 = nI p + 10 := by rw [hxp]
        rw [Int32.sub_add_cancel] at this
        rw [this, q_10, nI_add, Nat.add_comm]
      have n2 : ¬ X_isPerson (x2 - 10) s = 0 := by rw [p2]; decide
      have n1 : ¬ M_isPerson (x2 - 10) s = 0 := by rw [p1]; decide
      refine ⟨s'.2.1 32 p, s', t4, ?_, ?_, inv⟩
      · unfold X_tried
        rw [X_within_eq, if_neg (hin s), X_within_eq, if_pos h2, if_neg n2, hC, hlive]
        simp only [hxp, X_pof p hp]
        rw [if_pos (by rw [hx2, q_10, z_le (by omega) (by omega)]; omega)]
      · unfold M_tried
        rw [if_neg (hin s'), if_pos (show M_in x2 0 3 s' = 0 from h2), if_neg (show ¬ M_isPerson (x2 - 10) s' = 0 from n1), u1]
        simp only [hgo]
        have hj : M_tried_j48_1 x2 x2 t' = some (s'.2.1 32 p) := by
          unfold M_tried_j48_1
          have c0 : ∀ k, k ≤ 3 → ¬ nI (10 + p) = nI k := fun k hk => by rw [z_eq (by omega) (by omega)]; omega
          rw [hx2, if_neg (show ¬ nI (10 + p) = 0 from c0 0 (by omega)), if_neg (show ¬ nI (10 + p) = 1 from c0 1 (by omega)), if_neg (show ¬ nI (10 + p) = 2 from c0 2 (by omega)), if_neg (show ¬ nI (10 + p) = 3 from c0 3 (by omega)), q_60, nI_add, q_10, z_sub (by omega), show 60 + (10 + p) - 10 = 60 + p by omega]
          simp (disch := omega) only [z_cl, z_lt0, z_nle, or_self, if_false, (hP p hp).1]
        simp only [hj, k1]
  · have n0 : ¬ M_in (nI w) 0 3 s = 0 := by
      show ¬ M_in (nI w) (nI 0) (nI 3) s = 0
      rw [h2]; decide
    refine ⟨XSt_tallied_25 (nI w) s', s', t4, ?_, ?_, inv⟩
    · unfold X_tried
      rw [X_within_eq, if_neg (hin s), X_within_eq, if_neg n0, hC, hlive]
      simp only []
      rw [if_neg (by rw [q_10, z_le (by omega) (by omega)]; omega)]
    · unfold M_tried
      rw [if_neg (hin s'), if_neg (show ¬ M_in (nI w) 0 3 s' = 0 from n0), u1]
      simp only [hgo]
      have hj : M_tried_j48 (nI w) (nI w) t' = some (XSt_tallied_25 (nI w) s') := by
        unfold M_tried_j48 XSt_tallied_25
        rw [e7, e8, e9, e10]
        have h : w = 0 ∨ w = 1 ∨ w = 2 ∨ w = 3 := by omega
        rcases h with rfl | rfl | rfl | rfl <;> rfl
      simp only [hj, k1]
