/-! days: the call -/
theorem d_days3 {f : Nat → Nat → Int32} (hL : y_law f) {bnd : Int32} {N : Nat} (hN : N ≤ 30) : ∀ k j s t, j + k = N → d_D3 f bnd s t → ∀ m1 m2, k < m1 → k < m2 →
    ∃ s' t', XSt_live_3_36_l23 m1 (nI N) bnd (nI j) s = some s' ∧ M_daysGo_l22 m2 (nI N) (nI j) t = some t' ∧ d_D3 f bnd s' t' ∧
      (∀ c j, ¬ (10 ≤ c ∧ c ≤ 13) → c ≠ 55 → c ≠ 56 → ¬ (c = 36 ∧ 9 ≤ j ∧ j ≤ 14) → ¬ (c = 3 ∧ 5 ≤ j ∧ j ≤ 10) → s'.2.1 c j = s.2.1 c j) ∧ (∀ c j, c ≠ 64 → c ≠ 79 → c ≠ 80 → ¬ (c = 63 ∧ 29 ≤ j ∧ j ≤ 36) → t'.2.1 c j = t.2.1 c j) := by
  intro k
  induction k with
  | zero =>
    intro j s t hj h m1 m2 hm1 hm2
    obtain rfl : j = N := by omega
    obtain ⟨m1, rfl⟩ : ∃ m, m1 = m + 1 := ⟨m1 - 1, by omega⟩
    obtain ⟨m2, rfl⟩ : ∃ m, m2 = m + 1 := ⟨m2 - 1, by omega⟩
    have c : nI j ≤ nI j := by rw [z_le (by omega) (by omega)]; omega
    exact ⟨s, t, by rw [XSt_live_3_36_l23]; exact if_pos c, by rw [M_daysGo_l22]; exact if_pos c, h, fun _ _ _ _ _ _ _ => rfl, fun _ _ _ _ _ _ => rfl⟩
  | succ k ih =>
    intro j s t hj h m1 m2 hm1 hm2
    obtain ⟨m1, rfl⟩ : ∃ m, m1 = m + 1 := ⟨m1 - 1, by omega⟩
    obtain ⟨m2, rfl⟩ : ∃ m, m2 = m + 1 := ⟨m2 - 1, by omega⟩
    have c : ¬ nI N ≤ nI j := by rw [z_le (by omega) (by omega)]; omega
    have e : t.2.1 64 289 = s.2.1 3 5 := by
      obtain ⟨d, x, -, -, h1, h2, -⟩ := h.2.2.1
      rw [h1, h2]
    by_cases c2 : 9999 ≤ s.2.1 3 5
    · exact ⟨s, t, by rw [XSt_live_3_36_l23, if_neg c, if_pos c2], by rw [M_daysGo_l22, if_neg c, if_pos (by rw [e]; exact c2)], h, fun _ _ _ _ _ _ _ => rfl, fun _ _ _ _ _ _ => rfl⟩
    · obtain ⟨s1, t1, a1, a2, a3, a4, a5⟩ := d_day3 hL h c2
      obtain ⟨s2, t2, b1, b2, b3, b4, b5⟩ := ih (j + 1) s1 t1 (by omega) a3 m1 m2 (by omega) (by omega)
      refine ⟨s2, t2, ?_, ?_, b3, fun c j e1 e2 e3 e4 e5 => by rw [b4 c j e1 e2 e3 e4 e5, a4 c j e1 e2 e3 e4 e5], fun c j e1 e2 e3 e4 => by rw [b5 c j e1 e2 e3 e4, a5 c j e1 e2 e3 e4]⟩
      · rw [a1 m1 (nI N) (nI j) c, z_1]; exact b1
      · rw [M_daysGo_l22, if_neg c, if_neg (by rw [e]; exact c2), a2, z_1]; exact b2
theorem d_start3 {s t u : ax_S} (h : y_inv s.2.1) (a : ∀ c j, ¬ (c = 3 ∧ 7 ≤ j ∧ j ≤ 10) → t.2.1 c j = s.2.1 c j) (a0 : t.2.1 3 7 = 0 ∧ t.2.1 3 8 = 0 ∧ t.2.1 3 9 = 0 ∧ t.2.1 3 10 = 0) (b : ∀ c j, 63 ≤ c → ¬ (c = 63 ∧ 33 ≤ j ∧ j ≤ 36) → u.2.1 c j = s.2.1 c j) (b0 : u.2.1 63 33 = 0 ∧ u.2.1 63 34 = 0 ∧ u.2.1 63 35 = 0 ∧ u.2.1 63 36 = 0) : d_D3 s.2.1 (s.2.1 0 12) t u := by
  obtain ⟨⟨hF, hP, hA, hD⟩, -, ⟨n, -, b1, b2⟩, -⟩ := h
  refine ⟨⟨fun i hi => ?_, fun p hp => ?_, fun c j hc => a c j (by omega), fun c j hc => b c j (by omega) (by omega)⟩, fun j w hj hw => ?_, ?_, by rw [a0.1, b0.1], by rw [a0.2.1, b0.2.1], by rw [a0.2.2.1, b0.2.2.1], by rw [a0.2.2.2, b0.2.2.2], ?_⟩
  · have h9 := hF i hi
    simp only [v_ok, vX, vM] at h9 ⊢
    rw [a (5 + 0) i (by omega), a (5 + 1) i (by omega), a (5 + 2) i (by omega), a (5 + 3) i (by omega), a (5 + 4) i (by omega), b 64 (12 * 0 + i) (by omega) (by omega), b 64 (12 * 1 + i) (by omega) (by omega), b 64 (12 * 2 + i) (by omega) (by omega), b 64 (12 * 3 + i) (by omega) (by omega), b 64 (12 * 4 + i) (by omega) (by omega)]
    exact h9
  · rw [a 10 p (by omega), a 11 p (by omega), a 12 p (by omega), b 64 (60 + p) (by omega) (by omega), b 64 (76 + p) (by omega) (by omega), b 64 (92 + p) (by omega) (by omega)]
    exact hP p hp
  · rw [a 13 _ (by omega), b 64 _ (by omega) (by omega)]
    exact hA j w hj hw
  · obtain ⟨d, x, h1, h2, h3, h4, h5, h6, h7⟩ := hD
    exact ⟨d, x, h1, h2, by rw [a 3 5 (by omega)]; exact h3, by rw [b 64 289 (by omega) (by omega)]; exact h4, by rw [b 64 288 (by omega) (by omega)]; exact h5, by rw [a 3 6 (by omega)]; exact h6, by rw [b 64 290 (by omega) (by omega)]; exact h7⟩
  · rw [b 63 3 (by omega) (by omega), b2, b1]
/-- the four tallies set to nothing -/
def d_0X (s : ax_S) : ax_S := ax_sI (ax_sI (ax_sI (ax_sI s 3 7 0) 3 8 0) 3 9 0) 3 10 0
def d_0M (s : ax_S) : ax_S := ax_sI (ax_sI (ax_sI (ax_sI s 63 33 0) 63 34 0) 63 35 0) 63 36 0
theorem d_0Xf (s : ax_S) : (∀ c j, ¬ (c = 3 ∧ 7 ≤ j ∧ j ≤ 10) → (d_0X s).2.1 c j = s.2.1 c j) ∧ (d_0X s).2.1 3 7 = 0 ∧ (d_0X s).2.1 3 8 = 0 ∧ (d_0X s).2.1 3 9 = 0 ∧ (d_0X s).2.1 3 10 = 0 := by
  unfold d_0X
  refine ⟨fun c j e => by rw [r_two c j (by omega) (by omega), r_two c j (by omega) (by omega)], ?_, ?_, ?_, ?_⟩
  all_goals simp (disch := omega) only [r_Ie, r_un, r_u]
theorem d_0Mf (s : ax_S) : (∀ c j, ¬ (c = 63 ∧ 33 ≤ j ∧ j ≤ 36) → (d_0M s).2.1 c j = s.2.1 c j) ∧ (d_0M s).2.1 63 33 = 0 ∧ (d_0M s).2.1 63 34 = 0 ∧ (d_0M s).2.1 63 35 = 0 ∧ (d_0M s).2.1 63 36 = 0 := by
  unfold d_0M
  refine ⟨fun c j e => by rw [r_two c j (by omega) (by omega), r_two c j (by omega) (by omega)], ?_, ?_, ?_, ?_⟩
  all_goals simp (disch := omega) only [r_Ie, r_un, r_u]
theorem y_days (x : Int32) (s : ax_S) (h : y_inv s.2.1) : y_sim (X_days x) (M_days x) s := by
  rcases z_inX (x := x) (s := s) 1 30 (by omega) (by omega) with h1 | ⟨h1, n, hn1, hn2, rfl⟩
  · have h1 : M_in x 1 30 s = 0 := h1
    refine y_same h (-1) ?_ ?_
    · unfold X_days; rw [X_within_eq, if_pos h1]
    · unfold M_days; rw [if_pos h1]
  have hin : ∀ t, ¬ M_in (nI n) 1 30 t = 0 := fun t => by
    show ¬ M_in (nI n) (nI 1) (nI 30) s = 0
    rw [h1]; decide
  obtain ⟨x1, x2⟩ := d_0Xf s
  obtain ⟨w1, w2⟩ := d_0Mf s
  obtain ⟨s', t0, a1, -, -, a4, -⟩ := d_days3 h.2.2.2.2.1 hn2 n 0 (d_0X s) (d_0M s) (by omega) (d_start3 h x1 x2 (fun c j _ e => w1 c j e) w2) 70000 70000 (by omega) (by omega)
  have fX : ∀ c j, ¬ (10 ≤ c ∧ c ≤ 13) → c ≠ 55 → c ≠ 56 → ¬ (c = 36 ∧ 9 ≤ j ∧ j ≤ 14) → ¬ (c = 3 ∧ 5 ≤ j ∧ j ≤ 10) → s'.2.1 c j = s.2.1 c j := fun c j e1 e2 e3 e4 e5 => by rw [a4 c j e1 e2 e3 e4 e5, x1 c j (by omega)]
  obtain ⟨v1, v2⟩ := d_0Mf s'
  obtain ⟨s2, t', b1, b2, b3, -, b5⟩ := d_days3 h.2.2.2.2.1 hn2 n 0 (d_0X s) (d_0M s') (by omega) (d_start3 h x1 x2 (fun c j e1 e2 => by rw [v1 c j e2]; exact fX c j (by omega) (by omega) (by omega) (by omega) (by omega)) v2) 70000 70000 (by omega) (by omega)
  rw [a1] at b1
  obtain rfl : s' = s2 := by simpa using b1
  have fM : ∀ c j, c ≠ 64 → c ≠ 79 → c ≠ 80 → ¬ (c = 63 ∧ 29 ≤ j ∧ j ≤ 36) → t'.2.1 c j = s'.2.1 c j := fun c j e1 e2 e3 e4 => by rw [b5 c j e1 e2 e3 e4, v1 c j (by omega)]
  obtain ⟨⟨hF, hP, -, -⟩, hA, hD, e7, -⟩ := b3
  refine ⟨s'.2.1 3 7, s', t', ?_, ?_, ?_⟩
  · unfold X_days XSt_live_3_36
    rw [X_within_eq, if_neg (hin s)]
    have a1 : XSt_live_3_36_l23 70000 (nI n) (s.2.1 0 12) 0 (ax_sI (ax_sI (ax_sI (ax_sI s 3 7 0) 3 8 0) 3 9 0) 3 10 0) = some s' := a1
    rw [a1]
    rfl
  · unfold M_days M_daysGo
    rw [if_neg (hin s')]
    have b2 : M_daysGo_l22 70000 (nI n) 0 (ax_sI (ax_sI (ax_sI (ax_sI s' 63 33 0) 63 34 0) 63 35 0) 63 36 0) = some t' := b2
    rw [b2, e7]
  · have r : ∀ c j, c < 63 → t'.2.1 c j = s'.2.1 c j := fun c j e => fM c j (by omega) (by omega) (by omega) (by omega)
    refine g_oth h ⟨fun i hi => ?_, fun p hp => ?_, fun j w hj hw => ?_, ?_⟩ fun c j k => by rw [fM c j (by omega) (by omega) (by omega) (by omega), fX c j (by omega) (by omega) (by omega) (by omega) (by omega)]
    · have h9 := hF i hi
      simp only [v_ok, vX, vM] at h9 ⊢
      rw [r _ _ (by omega), r (3 + 2 + 1) i (by omega), r (3 + 2 + 2) i (by omega), r (3 + 2 + 3) i (by omega), r (3 + 2 + 4) i (by omega)]
      exact h9
    · rw [r _ _ (by omega), r (3 + 8) p (by omega), r (3 + 9) p (by omega)]
      exact hP p hp
    · rw [r _ _ (by omega)]
      exact hA j w hj hw
    · obtain ⟨d, x, h1, h2, h3, h4, h5, h6, h7⟩ := hD
      exact ⟨d, x, h1, h2, by rw [r _ _ (by omega)]; exact h3, h4, h5, by rw [r _ _ (by omega)]; exact h6, h7⟩
