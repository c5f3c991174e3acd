/-! the tape, keep and undo, album, mirror, check -/
theorem y_byte (x : Int32) : ∃ b : Nat, b < 256 ∧ x &&& 255 = nI b := pk_andE x 8 (by decide)
theorem X_byteAt_eq {s : ax_S} {l k : Nat} (hl : l ≤ 260) (h : s.2.1 1 1 = nI l) (hk : k < l) : XTa_byteAt (nI k) s = some (s.2.1 2 k) := by
  unfold XTa_byteAt
  rw [h]
  simp (disch := omega) only [q_260, z_cl, z_lt0, z_le, z_nle, if_false, or_self]
theorem M_octet_eq {s : ax_S} {k : Nat} (hk : k < 260) : M_octet (nI k) s = some (s.2.1 67 k &&& 255) := by
  unfold M_octet
  simp (disch := omega) only [z_cl, z_lt0, z_nle, if_false, or_self]
theorem fd_b (x : Int32) (n : Nat) (hn : n ≤ 24) : ((x.toUInt32 >>> ((nI n).toUInt32 &&& Int32.toUInt32 31)).toInt32 &&& 255) = ((x >>> (nI n &&& 31)).toInt8.toInt32).toInt8.toInt32 &&& 255 := by
  rw [bp_b, bp_b]
  apply b_ext
  intro i hi
  rw [b_and, b_and, b_255, b_ushr n (by omega), b_sshr n (by omega) x hi]
  by_cases h : i < 8
  · rw [if_pos (by omega)]
  · simp [h]
def fd_x (x : Int32) (j : Nat) : Int32 := ((x.toUInt32 >>> ((nI (24 - 8 * j)).toUInt32 &&& Int32.toUInt32 31)).toInt32 &&& 255)
def fd_m (x : Int32) (j : Nat) : Int32 := ((x >>> (nI (24 - 8 * j) &&& 31)).toInt8.toInt32).toInt8.toInt32
theorem fd_c (k : Nat) (hk : k < 4) : (¬ nI 24 - nI (8 * k) < 0) ∧ nI 24 - nI (8 * k) = nI (24 - 8 * k) ∧ nI 24 - nI (8 * k) + (-8) = nI 24 - nI (8 * (k + 1)) ∧ (¬ nI 3 - nI k < 0) ∧ (8 : Int32) * (nI 3 - nI k) = nI (24 - 8 * k) ∧ nI 3 - nI k + (-1) = nI 3 - nI (k + 1) := by
  have h : k = 0 ∨ k = 1 ∨ k = 2 ∨ k = 3 := by omega
  rcases h with rfl | rfl | rfl | rfl <;> decide
theorem X_app (x : Int32) (s : ax_S) (l : Nat) (hl : l + 4 ≤ 260) (h : s.2.1 1 1 = nI l) : ∃ s', XTa_append x s = some s' ∧ s'.2.1 1 1 = nI (l + 4) ∧ (∀ j, j < 4 → s'.2.1 2 (l + j) = fd_x x j) ∧ (∀ c j, ¬ (c = 1 ∧ j = 1) → ¬ (c = 2 ∧ l ≤ j) → s'.2.1 c j = s.2.1 c j) := by
  unfold XTa_append
  obtain ⟨b, h1, h2⟩ := z_for (fun n k (a : ax_S) => XTa_append_l3 n x (nI 24 - nI (8 * k)) a) 4 (fun k a => a.2.1 1 1 = nI (l + k) ∧ (∀ j, j < k → a.2.1 2 (l + j) = fd_x x j) ∧ (∀ c j, ¬ (c = 1 ∧ j = 1) → ¬ (c = 2 ∧ l ≤ j) → a.2.1 c j = s.2.1 c j)) (fun b => b.2.1 1 1 = nI (l + 4) ∧ (∀ j, j < 4 → b.2.1 2 (l + j) = fd_x x j) ∧ (∀ c j, ¬ (c = 1 ∧ j = 1) → ¬ (c = 2 ∧ l ≤ j) → b.2.1 c j = s.2.1 c j)) (fun n a ha => ⟨a, by
      show XTa_append_l3 (n + 1) x (nI 24 - nI (8 * 4)) a = some a
      rw [XTa_append_l3]
      exact if_pos (by decide), ha⟩) (fun n k a hk ha => Or.inr ⟨ax_sI (ax_sI a 2 (l + k) (fd_x x k)) 1 1 (nI (l + (k + 1))), by
      obtain ⟨e1, e2, e3, -, -, -⟩ := fd_c k hk
      show XTa_append_l3 (n + 1) x (nI 24 - nI (8 * k)) a = XTa_append_l3 n x (nI 24 - nI (8 * (k + 1))) _
      rw [XTa_append_l3, if_neg e1, e3, ha.1, e2]
      simp (disch := omega) only [q_260, z_cl, z_lt0, z_le, z_nle, if_false, or_self]
      rw [z_1]
      rfl, by
      obtain ⟨h3, h4, h5⟩ := ha
      refine ⟨?_, ?_, ?_⟩
      · rw [r_Ie, r_u]
      · intro j hj
        rw [r_I (by omega), r_Ie]
        by_cases hjk : j = k
        · subst hjk; rw [r_u]
        · rw [r_un (by omega)]; exact h4 j (by omega)
      · intro c j h6 h7
        rw [r_two c j (by omega) (by omega)]
        exact h5 c j h6 h7⟩) 70000 0 s (by omega) ⟨h, fun j hj => absurd hj (Nat.not_lt_zero _), fun _ _ _ _ => rfl⟩ (by omega)
  have h1 : XTa_append_l3 70000 x 24 s = some b := h1
  rw [h1]
  exact ⟨b, rfl, h2⟩
theorem M_app (x : Int32) (s : ax_S) (l : Nat) (hl : l + 4 ≤ 260) (h : s.2.1 63 5 = nI l) : ∃ s', M_types x s = some s' ∧ s'.2.1 63 5 = nI (l + 4) ∧ (∀ j, j < 4 → s'.2.1 67 (l + j) = fd_m x j) ∧ (∀ c j, ¬ (c = 63 ∧ j = 5) → ¬ (c = 67 ∧ l ≤ j) → s'.2.1 c j = s.2.1 c j) := by
  unfold M_types
  obtain ⟨b, h1, h2⟩ := z_for (fun n k (a : ax_S) => M_types_l2 n x (nI 3 - nI k) a) 4 (fun k a => a.2.1 63 5 = nI (l + k) ∧ (∀ j, j < k → a.2.1 67 (l + j) = fd_m x j) ∧ (∀ c j, ¬ (c = 63 ∧ j = 5) → ¬ (c = 67 ∧ l ≤ j) → a.2.1 c j = s.2.1 c j)) (fun b => b.2.1 63 5 = nI (l + 4) ∧ (∀ j, j < 4 → b.2.1 67 (l + j) = fd_m x j) ∧ (∀ c j, ¬ (c = 63 ∧ j = 5) → ¬ (c = 67 ∧ l ≤ j) → b.2.1 c j = s.2.1 c j)) (fun n a ha => ⟨a, by
      show M_types_l2 (n + 1) x (nI 3 - nI 4) a = some a
      rw [M_types_l2]
      exact if_pos (by decide), ha⟩) (fun n k a hk ha => Or.inr ⟨ax_sI (ax_sI a 67 (l + k) (fd_m x k)) 63 5 (nI (l + (k + 1))), by
      obtain ⟨-, -, -, e1, e2, e3⟩ := fd_c k hk
      show M_types_l2 (n + 1) x (nI 3 - nI k) a = M_types_l2 n x (nI 3 - nI (k + 1)) _
      rw [M_types_l2, if_neg e1, e3, ha.1, e2]
      simp (disch := omega) only [z_cl, z_lt0, z_nle, if_false, or_self]
      rw [z_1]
      rfl, by
      obtain ⟨h3, h4, h5⟩ := ha
      refine ⟨?_, ?_, ?_⟩
      · rw [r_Ie, r_u]
      · intro j hj
        rw [r_I (by omega), r_Ie]
        by_cases hjk : j = k
        · subst hjk; rw [r_u]
        · rw [r_un (by omega)]; exact h4 j (by omega)
      · intro c j h6 h7
        rw [r_two c j (by omega) (by omega)]
        exact h5 c j h6 h7⟩) 70000 0 s (by omega) ⟨h, fun j hj => absurd hj (Nat.not_lt_zero _), fun _ _ _ _ => rfl⟩ (by omega)
  have h1 : M_types_l2 70000 x 3 s = some b := h1
  rw [h1]
  exact ⟨b, rfl, h2⟩
theorem fd_xm (x : Int32) (j : Nat) : fd_x x j = fd_m x j &&& 255 := fd_b x (24 - 8 * j) (by omega)
theorem y_feed (a b c d e : Int32) (s : ax_S) (h : y_inv s.2.1) : y_sim (X_feed a b c d e) (M_feed a b c d e) s := by
  obtain ⟨l, hl, h1, h2, h3⟩ := h.2.2.2.1
  by_cases hc : l ≤ 240
  · obtain ⟨s1, x1, y1, z1, w1⟩ := X_app a s l (by omega) h1
    obtain ⟨s2, x2, y2, z2, w2⟩ := X_app b s1 (l + 4) (by omega) y1
    obtain ⟨s3, x3, y3, z3, w3⟩ := X_app c s2 (l + 4 + 4) (by omega) y2
    obtain ⟨s4, x4, y4, z4, w4⟩ := X_app d s3 (l + 4 + 4 + 4) (by omega) y3
    obtain ⟨s5, x5, y5, z5, w5⟩ := X_app e s4 (l + 4 + 4 + 4 + 4) (by omega) y4
    have h4 : s5.2.1 63 5 = nI l := by
      rw [w5 _ _ (by omega) (by omega), w4 _ _ (by omega) (by omega), w3 _ _ (by omega) (by omega), w2 _ _ (by omega) (by omega), w1 _ _ (by omega) (by omega)]
      exact h2
    obtain ⟨t1, X1, Y1, Z1, W1⟩ := M_app a s5 l (by omega) h4
    obtain ⟨t2, X2, Y2, Z2, W2⟩ := M_app b t1 (l + 4) (by omega) Y1
    obtain ⟨t3, X3, Y3, Z3, W3⟩ := M_app c t2 (l + 4 + 4) (by omega) Y2
    obtain ⟨t4, X4, Y4, Z4, W4⟩ := M_app d t3 (l + 4 + 4 + 4) (by omega) Y3
    obtain ⟨t5, X5, Y5, Z5, W5⟩ := M_app e t4 (l + 4 + 4 + 4 + 4) (by omega) Y4
    refine ⟨nI (l + 4 + 4 + 4 + 4 + 4), s5, t5, ?_, ?_, ?_⟩
    · unfold X_feed XTa_length
      rw [h1, if_pos (by rw [q_240, z_le (by omega) (by omega)]; exact hc)]
      simp only [x1, x2, x3, x4, x5, y5]
    · unfold M_feed
      rw [h4, if_pos (by rw [q_20, q_260, nI_add, z_le (by omega) (by omega)]; omega)]
      simp only [X1, X2, X3, X4, X5, Y5]
    · have hX : ∀ c j, ¬ (c = 1 ∧ j = 1) → ¬ (c = 2 ∧ l ≤ j) → s5.2.1 c j = s.2.1 c j := fun c j p q => by
        rw [w5 c j p (by omega), w4 c j p (by omega), w3 c j p (by omega), w2 c j p (by omega), w1 c j p (by omega)]
      have hM : ∀ c j, ¬ (c = 63 ∧ j = 5) → ¬ (c = 67 ∧ l ≤ j) → t5.2.1 c j = s5.2.1 c j := fun c j p q => by
        rw [W5 c j p (by omega), W4 c j p (by omega), W3 c j p (by omega), W2 c j p (by omega), W1 c j p (by omega)]
      refine g_tape h ⟨l + 20, by omega, ?_, Y5, fun k hk => ?_⟩ fun c j hc => by rw [hM c j (by omega) (by omega), hX c j (by omega) (by omega)]
      · rw [hM _ _ (by omega) (by omega)]; exact y5
      · rw [hM 2 k (by omega) (by omega)]
        by_cases k0 : k < l
        · rw [hM 67 k (by omega) (by omega), hX 2 k (by omega) (by omega), hX 67 k (by omega) (by omega)]
          exact h3 k k0
        by_cases k1 : k < l + 4
        · obtain ⟨j, rfl⟩ : ∃ j, k = l + j := ⟨k - l, by omega⟩
          rw [w5 2 _ (by omega) (by omega), w4 2 _ (by omega) (by omega), w3 2 _ (by omega) (by omega), w2 2 _ (by omega) (by omega), z1 j (by omega), W5 67 _ (by omega) (by omega), W4 67 _ (by omega) (by omega), W3 67 _ (by omega) (by omega), W2 67 _ (by omega) (by omega), Z1 j (by omega)]
          exact fd_xm _ _
        by_cases k2 : k < l + 4 + 4
        · obtain ⟨j, rfl⟩ : ∃ j, k = l + 4 + j := ⟨k - l - 4, by omega⟩
          rw [w5 2 _ (by omega) (by omega), w4 2 _ (by omega) (by omega), w3 2 _ (by omega) (by omega), z2 j (by omega), W5 67 _ (by omega) (by omega), W4 67 _ (by omega) (by omega), W3 67 _ (by omega) (by omega), Z2 j (by omega)]
          exact fd_xm _ _
        by_cases k3 : k < l + 4 + 4 + 4
        · obtain ⟨j, rfl⟩ : ∃ j, k = l + 4 + 4 + j := ⟨k - l - 8, by omega⟩
          rw [w5 2 _ (by omega) (by omega), w4 2 _ (by omega) (by omega), z3 j (by omega), W5 67 _ (by omega) (by omega), W4 67 _ (by omega) (by omega), Z3 j (by omega)]
          exact fd_xm _ _
        by_cases k4 : k < l + 4 + 4 + 4 + 4
        · obtain ⟨j, rfl⟩ : ∃ j, k = l + 4 + 4 + 4 + j := ⟨k - l - 12, by omega⟩
          rw [w5 2 _ (by omega) (by omega), z4 j (by omega), W5 67 _ (by omega) (by omega), Z4 j (by omega)]
          exact fd_xm _ _
        · obtain ⟨j, rfl⟩ : ∃ j, k = l + 4 + 4 + 4 + 4 + j := ⟨k - l - 16, by omega⟩
          rw [z5 j (by omega), Z5 j (by omega)]
          exact fd_xm _ _
  · refine y_same h (-1) ?_ ?_
    · unfold X_feed XTa_length
      rw [h1, if_neg (by rw [q_240, z_le (by omega) (by omega)]; exact hc)]
    · unfold M_feed
      rw [h2, if_neg (by rw [q_20, q_260, nI_add, z_le (by omega) (by omega)]; omega)]
theorem M_copies_64_65_eq (s : ax_S) : ∃ s', M_copies_64_65 s = some s' ∧ (∀ j, j < 291 → s'.2.1 65 j = s.2.1 64 j) ∧ (∀ c, c ≠ 65 → s'.2.1 c = s.2.1 c) := by
  unfold M_copies_64_65
  obtain ⟨b, h1, h2⟩ := z_for (fun n k (a : ax_S) => M_copies_64_65_l2 n (nI k) a) 291 (fun k a => (∀ j, j < k → a.2.1 65 j = s.2.1 64 j) ∧ (∀ c, c ≠ 65 → a.2.1 c = s.2.1 c)) (fun b => (∀ j, j < 291 → b.2.1 65 j = s.2.1 64 j) ∧ (∀ c, c ≠ 65 → b.2.1 c = s.2.1 c)) (fun n a ha => ⟨a, by
      show M_copies_64_65_l2 (n + 1) (nI 291) a = some a
      rw [M_copies_64_65_l2]
      exact if_pos (by decide), ha⟩) (fun n k a hk ha => Or.inr ⟨ax_sI a 65 k (a.2.1 64 k), by
      show M_copies_64_65_l2 (n + 1) (nI k) a = M_copies_64_65_l2 n (nI (k + 1)) _
      rw [M_copies_64_65_l2]
      simp (disch := omega) only [q_291, z_1, z_cl, z_lt0, z_le, z_nle, if_false, or_self], by
      refine ⟨fun j hj => ?_, fun c hc => ?_⟩
      · rw [r_Ie]
        by_cases hjk : j = k
        · subst hjk; rw [r_u, ha.2 _ (by omega)]
        · rw [r_un hjk]; exact ha.1 j (by omega)
      · rw [r_I hc]; exact ha.2 c hc⟩) 70000 0 s (by omega) ⟨fun j hj => absurd hj (Nat.not_lt_zero _), fun _ _ => rfl⟩ (by omega)
  have h1 : M_copies_64_65_l2 70000 0 s = some b := h1
  rw [h1]
  exact ⟨b, rfl, h2⟩
theorem M_copies_65_64_eq (s : ax_S) : ∃ s', M_copies_65_64 s = some s' ∧ (∀ j, j < 291 → s'.2.1 64 j = s.2.1 65 j) ∧ (∀ c, c ≠ 64 → s'.2.1 c = s.2.1 c) := by
  unfold M_copies_65_64
  obtain ⟨b, h1, h2⟩ := z_for (fun n k (a : ax_S) => M_copies_65_64_l2 n (nI k) a) 291 (fun k a => (∀ j, j < k → a.2.1 64 j = s.2.1 65 j) ∧ (∀ c, c ≠ 64 → a.2.1 c = s.2.1 c)) (fun b => (∀ j, j < 291 → b.2.1 64 j = s.2.1 65 j) ∧ (∀ c, c ≠ 64 → b.2.1 c = s.2.1 c)) (fun n a ha => ⟨a, by
      show M_copies_65_64_l2 (n + 1) (nI 291) a = some a
      rw [M_copies_65_64_l2]
      exact if_pos (by decide), ha⟩) (fun n k a hk ha => Or.inr ⟨ax_sI a 64 k (a.2.1 65 k), by
      show M_copies_65_64_l2 (n + 1) (nI k) a = M_copies_65_64_l2 n (nI (k + 1)) _
      rw [M_copies_65_64_l2]
      simp (disch := omega) only [q_291, z_1, z_cl, z_lt0, z_le, z_nle, if_false, or_self], by
      refine ⟨fun j hj => ?_, fun c hc => ?_⟩
      · rw [r_Ie]
        by_cases hjk : j = k
        · subst hjk; rw [r_u, ha.2 _ (by omega)]
        · rw [r_un hjk]; exact ha.1 j (by omega)
      · rw [r_I hc]; exact ha.2 c hc⟩) 70000 0 s (by omega) ⟨fun j hj => absurd hj (Nat.not_lt_zero _), fun _ _ => rfl⟩ (by omega)
  have h1 : M_copies_65_64_l2 70000 0 s = some b := h1
  rw [h1]
  exact ⟨b, rfl, h2⟩
theorem M_copies_64_66_eq (s : ax_S) : ∃ s', M_copies_64_66 s = some s' ∧ (∀ j, j < 291 → s'.2.1 66 j = s.2.1 64 j) ∧ (∀ c, c ≠ 66 → s'.2.1 c = s.2.1 c) := by
  unfold M_copies_64_66
  obtain ⟨b, h1, h2⟩ := z_for (fun n k (a : ax_S) => M_copies_64_66_l2 n (nI k) a) 291 (fun k a => (∀ j, j < k → a.2.1 66 j = s.2.1 64 j) ∧ (∀ c, c ≠ 66 → a.2.1 c = s.2.1 c)) (fun b => (∀ j, j < 291 → b.2.1 66 j = s.2.1 64 j) ∧ (∀ c, c ≠ 66 → b.2.1 c = s.2.1 c)) (fun n a ha => ⟨a, by
      show M_copies_64_66_l2 (n + 1) (nI 291) a = some a
      rw [M_copies_64_66_l2]
      exact if_pos (by decide), ha⟩) (fun n k a hk ha => Or.inr ⟨ax_sI a 66 k (a.2.1 64 k), by
      show M_copies_64_66_l2 (n + 1) (nI k) a = M_copies_64_66_l2 n (nI (k + 1)) _
      rw [M_copies_64_66_l2]
      simp (disch := omega) only [q_291, z_1, z_cl, z_lt0, z_le, z_nle, if_false, or_self], by
      refine ⟨fun j hj => ?_, fun c hc => ?_⟩
      · rw [r_Ie]
        by_cases hjk : j = k
        · subst hjk; rw [r_u, ha.2 _ (by omega)]
        · rw [r_un hjk]; exact ha.1 j (by omega)
      · rw [r_I hc]; exact ha.2 c hc⟩) 70000 0 s (by omega) ⟨fun j hj => absurd hj (Nat.not_lt_zero _), fun _ _ => rfl⟩ (by omega)
  have h1 : M_copies_64_66_l2 70000 0 s = some b := h1
  rw [h1]
  exact ⟨b, rfl, h2⟩
theorem M_copies_66_64_eq (s : ax_S) : ∃ s', M_copies_66_64 s = some s' ∧ (∀ j, j < 291 → s'.2.1 64 j = s.2.1 66 j) ∧ (∀ c, c ≠ 64 → s'.2.1 c = s.2.1 c) := by
  unfold M_copies_66_64
  obtain ⟨b, h1, h2⟩ := z_for (fun n k (a : ax_S) => M_copies_66_64_l2 n (nI k) a) 291 (fun k a => (∀ j, j < k → a.2.1 64 j = s.2.1 66 j) ∧ (∀ c, c ≠ 64 → a.2.1 c = s.2.1 c)) (fun b => (∀ j, j < 291 → b.2.1 64 j = s.2.1 66 j) ∧ (∀ c, c ≠ 64 → b.2.1 c = s.2.1 c)) (fun n a ha => ⟨a, by
      show M_copies_66_64_l2 (n + 1) (nI 291) a = some a
      rw [M_copies_66_64_l2]
      exact if_pos (by decide), ha⟩) (fun n k a hk ha => Or.inr ⟨ax_sI a 64 k (a.2.1 66 k), by
      show M_copies_66_64_l2 (n + 1) (nI k) a = M_copies_66_64_l2 n (nI (k + 1)) _
      rw [M_copies_66_64_l2]
      simp (disch := omega) only [q_291, z_1, z_cl, z_lt0, z_le, z_nle, if_false, or_self], by
      refine ⟨fun j hj => ?_, fun c hc => ?_⟩
      · rw [r_Ie]
        by_cases hjk : j = k
        · subst hjk; rw [r_u, ha.2 _ (by omega)]
        · rw [r_un hjk]; exact ha.1 j (by omega)
      · rw [r_I hc]; exact ha.2 c hc⟩) 70000 0 s (by omega) ⟨fun j hj => absurd hj (Nat.not_lt_zero _), fun _ _ => rfl⟩ (by omega)
  have h1 : M_copies_66_64_l2 70000 0 s = some b := h1
  rw [h1]
  exact ⟨b, rfl, h2⟩
theorem XFi_copyFrom_15_4_eq (s : ax_S) : (∀ k i, k < 5 → i < 12 → (XFi_copyFrom_15_4 s).2.1 (14 + 2 + k) i = s.2.1 (3 + 2 + k) i) ∧ (∀ c, c < 16 ∨ 20 < c → (XFi_copyFrom_15_4 s).2.1 c = s.2.1 c) := by
  unfold XFi_copyFrom_15_4
  refine ⟨fun k i hk hi => ?_, fun c hc => ?_⟩
  · have h : k = 0 ∨ k = 1 ∨ k = 2 ∨ k = 3 ∨ k = 4 := by omega
    rcases h with rfl | rfl | rfl | rfl | rfl
    all_goals simp (disch := omega) only [Nat.reduceAdd, r_A, r_Ae, r_cpy]
  · simp (disch := omega) only [r_A]
theorem XSt_copyFrom_14_3_eq (s : ax_S) : (∀ k i, k < 5 → i < 12 → (XSt_copyFrom_14_3 s).2.1 (14 + 2 + k) i = s.2.1 (3 + 2 + k) i) ∧ (∀ k p, k < 3 → p < 16 → (XSt_copyFrom_14_3 s).2.1 (14 + 7 + k) p = s.2.1 (3 + 7 + k) p) ∧ (∀ i, i < 180 → (XSt_copyFrom_14_3 s).2.1 (14 + 10) i = s.2.1 (3 + 10) i) ∧ (XSt_copyFrom_14_3 s).2.1 14 5 = s.2.1 3 5 ∧ (XSt_copyFrom_14_3 s).2.1 14 6 = s.2.1 3 6 ∧ (∀ c j, (c < 16 ∨ 24 < c) → ¬ (c = 14 ∧ (j = 5 ∨ j = 6)) → (XSt_copyFrom_14_3 s).2.1 c j = s.2.1 c j) := by
  obtain ⟨e1, e2⟩ := XFi_copyFrom_15_4_eq s
  unfold XSt_copyFrom_14_3
  refine ⟨fun k i hk hi => ?_, fun k i hk hi => ?_, fun i hi => ?_, ?_, ?_, fun c j hc hj => ?_⟩
  · rw [← e1 k i hk hi]
    have h : k = 0 ∨ k = 1 ∨ k = 2 ∨ k = 3 ∨ k = 4 := by omega
    rcases h with rfl | rfl | rfl | rfl | rfl
    all_goals simp (disch := omega) only [Nat.reduceAdd, r_A, r_Ae, r_I]
  · have h : k = 0 ∨ k = 1 ∨ k = 2 := by omega
    rcases h with rfl | rfl | rfl
    all_goals simp (disch := omega) only [Nat.reduceAdd, r_A, r_Ae, r_I, r_cpy, e2]
  · simp (disch := omega) only [Nat.reduceAdd, r_A, r_Ae, r_I, r_cpy, e2]
  · rw [r_Ie, r_un (by omega), r_Ie, r_u, e2 _ (by omega)]
  · rw [r_Ie, r_u, e2 _ (by omega)]
  · rw [r_two c j (by omega) (by omega)]
    simp (disch := omega) only [r_A, e2]
theorem XFi_copyFrom_4_15_eq (s : ax_S) : (∀ k i, k < 5 → i < 12 → (XFi_copyFrom_4_15 s).2.1 (3 + 2 + k) i = s.2.1 (14 + 2 + k) i) ∧ (∀ c, c < 5 ∨ 9 < c → (XFi_copyFrom_4_15 s).2.1 c = s.2.1 c) := by
  unfold XFi_copyFrom_4_15
  refine ⟨fun k i hk hi => ?_, fun c hc => ?_⟩
  · have h : k = 0 ∨ k = 1 ∨ k = 2 ∨ k = 3 ∨ k = 4 := by omega
    rcases h with rfl | rfl | rfl | rfl | rfl
    all_goals simp (disch := omega) only [Nat.reduceAdd, r_A, r_Ae, r_cpy]
  · simp (disch := omega) only [r_A]
theorem XSt_copyFrom_3_14_eq (s : ax_S) : (∀ k i, k < 5 → i < 12 → (XSt_copyFrom_3_14 s).2.1 (3 + 2 + k) i = s.2.1 (14 + 2 + k) i) ∧ (∀ k p, k < 3 → p < 16 → (XSt_copyFrom_3_14 s).2.1 (3 + 7 + k) p = s.2.1 (14 + 7 + k) p) ∧ (∀ i, i < 180 → (XSt_copyFrom_3_14 s).2.1 (3 + 10) i = s.2.1 (14 + 10) i) ∧ (XSt_copyFrom_3_14 s).2.1 3 5 = s.2.1 14 5 ∧ (XSt_copyFrom_3_14 s).2.1 3 6 = s.2.1 14 6 ∧ (∀ c j, (c < 5 ∨ 13 < c) → ¬ (c = 3 ∧ (j = 5 ∨ j = 6)) → (XSt_copyFrom_3_14 s).2.1 c j = s.2.1 c j) := by
  obtain ⟨e1, e2⟩ := XFi_copyFrom_4_15_eq s
  unfold XSt_copyFrom_3_14
  refine ⟨fun k i hk hi => ?_, fun k i hk hi => ?_, fun i hi => ?_, ?_, ?_, fun c j hc hj => ?_⟩
  · rw [← e1 k i hk hi]
    have h : k = 0 ∨ k = 1 ∨ k = 2 ∨ k = 3 ∨ k = 4 := by omega
    rcases h with rfl | rfl | rfl | rfl | rfl
    all_goals simp (disch := omega) only [Nat.reduceAdd, r_A, r_Ae, r_I]
  · have h : k = 0 ∨ k = 1 ∨ k = 2 := by omega
    rcases h with rfl | rfl | rfl
    all_goals simp (disch := omega) only [Nat.reduceAdd, r_A, r_Ae, r_I, r_cpy, e2]
  · simp (disch := omega) only [Nat.reduceAdd, r_A, r_Ae, r_I, r_cpy, e2]
  · rw [r_Ie, r_un (by omega), r_Ie, r_u, e2 _ (by omega)]
  · rw [r_Ie, r_u, e2 _ (by omega)]
  · rw [r_two c j (by omega) (by omega)]
    simp (disch := omega) only [r_A, e2]
theorem XFi_copyFrom_26_4_eq (s : ax_S) : (∀ k i, k < 5 → i < 12 → (XFi_copyFrom_26_4 s).2.1 (25 + 2 + k) i = s.2.1 (3 + 2 + k) i) ∧ (∀ c, c < 27 ∨ 31 < c → (XFi_copyFrom_26_4 s).2.1 c = s.2.1 c) := by
  unfold XFi_copyFrom_26_4
  refine ⟨fun k i hk hi => ?_, fun c hc => ?_⟩
  · have h : k = 0 ∨ k = 1 ∨ k = 2 ∨ k = 3 ∨ k = 4 := by omega
    rcases h with rfl | rfl | rfl | rfl | rfl
    all_goals simp (disch := omega) only [Nat.reduceAdd, r_A, r_Ae, r_cpy]
  · simp (disch := omega) only [r_A]
theorem XSt_copyFrom_25_3_eq (s : ax_S) : (∀ k i, k < 5 → i < 12 → (XSt_copyFrom_25_3 s).2.1 (25 + 2 + k) i = s.2.1 (3 + 2 + k) i) ∧ (∀ k p, k < 3 → p < 16 → (XSt_copyFrom_25_3 s).2.1 (25 + 7 + k) p = s.2.1 (3 + 7 + k) p) ∧ (∀ i, i < 180 → (XSt_copyFrom_25_3 s).2.1 (25 + 10) i = s.2.1 (3 + 10) i) ∧ (XSt_copyFrom_25_3 s).2.1 25 5 = s.2.1 3 5 ∧ (XSt_copyFrom_25_3 s).2.1 25 6 = s.2.1 3 6 ∧ (∀ c j, (c < 27 ∨ 35 < c) → ¬ (c = 25 ∧ (j = 5 ∨ j = 6)) → (XSt_copyFrom_25_3 s).2.1 c j = s.2.1 c j) := by
  obtain ⟨e1, e2⟩ := XFi_copyFrom_26_4_eq s
  unfold XSt_copyFrom_25_3
  refine ⟨fun k i hk hi => ?_, fun k i hk hi => ?_, fun i hi => ?_, ?_, ?_, fun c j hc hj => ?_⟩
  · rw [← e1 k i hk hi]
    have h : k = 0 ∨ k = 1 ∨ k = 2 ∨ k = 3 ∨ k = 4 := by omega
    rcases h with rfl | rfl | rfl | rfl | rfl
    all_goals simp (disch := omega) only [Nat.reduceAdd, r_A, r_Ae, r_I]
  · have h : k = 0 ∨ k = 1 ∨ k = 2 := by omega
    rcases h with rfl | rfl | rfl
    all_goals simp (disch := omega) only [Nat.reduceAdd, r_A, r_Ae, r_I, r_cpy, e2]
  · simp (disch := omega) only [Nat.reduceAdd, r_A, r_Ae, r_I, r_cpy, e2]
  · rw [r_Ie, r_un (by omega), r_Ie, r_u, e2 _ (by omega)]
  · rw [r_Ie, r_u, e2 _ (by omega)]
  · rw [r_two c j (by omega) (by omega)]
    simp (disch := omega) only [r_A, e2]
theorem XFi_copyFrom_4_26_eq (s : ax_S) : (∀ k i, k < 5 → i < 12 → (XFi_copyFrom_4_26 s).2.1 (3 + 2 + k) i = s.2.1 (25 + 2 + k) i) ∧ (∀ c, c < 5 ∨ 9 < c → (XFi_copyFrom_4_26 s).2.1 c = s.2.1 c) := by
  unfold XFi_copyFrom_4_26
  refine ⟨fun k i hk hi => ?_, fun c hc => ?_⟩
  · have h : k = 0 ∨ k = 1 ∨ k = 2 ∨ k = 3 ∨ k = 4 := by omega
    rcases h with rfl | rfl | rfl | rfl | rfl
    all_goals simp (disch := omega) only [Nat.reduceAdd, r_A, r_Ae, r_cpy]
  · simp (disch := omega) only [r_A]
theorem XSt_copyFrom_3_25_eq (s : ax_S) : (∀ k i, k < 5 → i < 12 → (XSt_copyFrom_3_25 s).2.1 (3 + 2 + k) i = s.2.1 (25 + 2 + k) i) ∧ (∀ k p, k < 3 → p < 16 → (XSt_copyFrom_3_25 s).2.1 (3 + 7 + k) p = s.2.1 (25 + 7 + k) p) ∧ (∀ i, i < 180 → (XSt_copyFrom_3_25 s).2.1 (3 + 10) i = s.2.1 (25 + 10) i) ∧ (XSt_copyFrom_3_25 s).2.1 3 5 = s.2.1 25 5 ∧ (XSt_copyFrom_3_25 s).2.1 3 6 = s.2.1 25 6 ∧ (∀ c j, (c < 5 ∨ 13 < c) → ¬ (c = 3 ∧ (j = 5 ∨ j = 6)) → (XSt_copyFrom_3_25 s).2.1 c j = s.2.1 c j) := by
  obtain ⟨e1, e2⟩ := XFi_copyFrom_4_26_eq s
  unfold XSt_copyFrom_3_25
  refine ⟨fun k i hk hi => ?_, fun k i hk hi => ?_, fun i hi => ?_, ?_, ?_, fun c j hc hj => ?_⟩
  · rw [← e1 k i hk hi]
    have h : k = 0 ∨ k = 1 ∨ k = 2 ∨ k = 3 ∨ k = 4 := by omega
    rcases h with rfl | rfl | rfl | rfl | rfl
    all_goals simp (disch := omega) only [Nat.reduceAdd, r_A, r_Ae, r_I]
  · have h : k = 0 ∨ k = 1 ∨ k = 2 := by omega
    rcases h with rfl | rfl | rfl
    all_goals simp (disch := omega) only [Nat.reduceAdd, r_A, r_Ae, r_I, r_cpy, e2]
  · simp (disch := omega) only [Nat.reduceAdd, r_A, r_Ae, r_I, r_cpy, e2]
  · rw [r_Ie, r_un (by omega), r_Ie, r_u, e2 _ (by omega)]
  · rw [r_Ie, r_u, e2 _ (by omega)]
  · rw [r_two c j (by omega) (by omega)]
    simp (disch := omega) only [r_A, e2]
theorem t_St {f g : Nat → Nat → Int32} {b r b' r' : Nat} (h : v_St f b r) (e1 : ∀ k i, k < 5 → i < 12 → g (b' + 2 + k) i = f (b + 2 + k) i) (e2 : ∀ k p, k < 3 → p < 16 → g (b' + 7 + k) p = f (b + 7 + k) p) (e3 : ∀ i, i < 180 → g (b' + 10) i = f (b + 10) i) (e4 : g b' 5 = f b 5) (e5 : g b' 6 = f b 6) (e6 : ∀ j, j < 291 → g r' j = f r j) : v_St g b' r' := by
  refine ⟨fun i hi => ?_, fun p hp => ?_, fun j w hj hw => ?_, ?_⟩
  · have h1 := h.1 i hi
    simp only [v_ok, vX, vM] at h1 ⊢
    rw [e1 0 i (by omega) hi, e1 1 i (by omega) hi, e1 2 i (by omega) hi, e1 3 i (by omega) hi, e1 4 i (by omega) hi, e6 _ (by omega), e6 (12 * 1 + i) (by omega), e6 (12 * 2 + i) (by omega), e6 (12 * 3 + i) (by omega), e6 (12 * 4 + i) (by omega)]
    exact h1
  · have h1 := h.2.1 p hp
    have a0 := e2 0 p (by omega) hp
    have a1 : g (b' + 8) p = f (b + 8) p := e2 1 p (by omega) hp
    have a2 : g (b' + 9) p = f (b + 9) p := e2 2 p (by omega) hp
    rw [Nat.add_zero, Nat.add_zero] at a0
    rw [a0, a1, a2, e6 _ (by omega), e6 (76 + p) (by omega), e6 (92 + p) (by omega)]
    exact h1
  · rw [e3 _ (by omega), e6 _ (by omega)]
    exact h.2.2.1 j w hj hw
  · have h1 := h.2.2.2
    unfold v_Dy at h1 ⊢
    rw [e4, e5, e6 288 (by omega), e6 289 (by omega), e6 290 (by omega)]
    exact h1
theorem y_keep (s : ax_S) (h : y_inv s.2.1) : ∃ a s2, M_keep (X_keep s).2 = some (a, s2) ∧ (X_keep s).1 = a ∧ y_inv s2.2.1 := by
  unfold X_keep M_keep XSt_day_3
  dsimp only
  obtain ⟨e1, e2, e3, e4, e5, e6⟩ := XSt_copyFrom_14_3_eq s
  generalize hs1 : XSt_copyFrom_14_3 s = s1 at *
  obtain ⟨s2, h1, h2, h3⟩ := M_copies_64_66_eq (ax_sI (ax_sI s1 0 13 1) 63 39 1)
  rw [h1]
  obtain ⟨dd, x, p1, p2, p3, p4, p5, p6, p7⟩ := h.1.2.2.2
  have f64 : s2.2.1 64 = s.2.1 64 := by
    rw [h3 64 (by omega), r_I (by omega), r_I (by omega)]
    exact funext fun j => e6 64 j (by omega) (by omega)
  have fr : ∀ c j, c ≠ 66 → (c < 16 ∨ 24 < c) → ¬ (c = 14 ∧ (j = 5 ∨ j = 6)) → ¬ (c = 0 ∧ j = 13) → ¬ (c = 63 ∧ j = 39) → s2.2.1 c j = s.2.1 c j := fun c j q1 q2 q3 q4 q5 => by
    rw [h3 c q1, r_two c j q4 q5]
    exact e6 c j q2 q3
  have fk : ∀ c j, c ≠ 66 → ¬ (c = 0 ∧ j = 13) → ¬ (c = 63 ∧ j = 39) → s2.2.1 c j = s1.2.1 c j := fun c j q1 q4 q5 => by
    rw [h3 c q1, r_two c j q4 q5]
  refine ⟨_, s2, rfl, ?_, g_now h.1 fun c j k => fr c j (by omega) (by omega) (by omega) (by omega) (by omega), Or.inr ⟨?_, ?_, ?_⟩, g_bd h.2.2.1 fun c j k => fr c j (by omega) (by omega) (by omega) (by omega) (by omega), g_tp h.2.2.2.1 fun c j k => fr c j (by omega) (by omega) (by omega) (by omega) (by omega), g_lawk h.2.2.2.2.1 fun c j k => fr c j (by omega) (by omega) (by omega) (by omega) (by omega), g_ln h.2.2.2.2.2 fun c j k => fr c j (by omega) (by omega) (by omega) (by omega) (by omega)⟩
  · rw [f64, p4, r_I (by omega), e6 3 5 (by omega) (by omega), p3]
  · rw [h3 0 (by omega), r_I (by omega), r_Ie, r_u]
  · rw [h3 63 (by omega), r_Ie, r_u]
  · refine t_St (b := 3) (r := 64) h.1 (fun k i hk hi => ?_) (fun k i hk hi => ?_) (fun i hi => ?_) ?_ ?_ (fun j hj => ?_)
    · rw [fk _ _ (by omega) (by omega) (by omega)]; exact e1 k i hk hi
    · rw [fk _ _ (by omega) (by omega) (by omega)]; exact e2 k i hk hi
    · rw [fk _ _ (by omega) (by omega) (by omega)]; exact e3 i hi
    · rw [fk _ _ (by omega) (by omega) (by omega)]; exact e4
    · rw [fk _ _ (by omega) (by omega) (by omega)]; exact e5
    · rw [h2 j hj, r_I (by omega), r_I (by omega)]; exact e6 64 j (by omega) (by omega)
theorem y_undo (s : ax_S) (h : y_inv s.2.1) : y_sim X_undo M_undo s := by
  rcases h.2.1 with ⟨h1, h2⟩ | ⟨h1, h2, h3⟩
  · refine y_same h 0 ?_ ?_
    · unfold X_undo
      rw [h1]
      simp
    · unfold M_undo
      rw [h2]
      simp
  · obtain ⟨e1, e2, e3, e4, e5, e6⟩ := XSt_copyFrom_3_14_eq s
    obtain ⟨s2, h4, h5, h6⟩ := M_copies_66_64_eq (XSt_copyFrom_3_14 s)
    have k0 : (XSt_copyFrom_3_14 s).2.1 0 13 = 1 := by rw [e6 _ _ (by omega) (by omega)]; exact h1
    have fr : ∀ c j, c ≠ 64 → (c < 5 ∨ 13 < c) → ¬ (c = 3 ∧ (j = 5 ∨ j = 6)) → s2.2.1 c j = s.2.1 c j := fun c j q1 q2 q3 => by
      rw [h6 c q1]
      exact e6 c j q2 q3
    refine ⟨1, XSt_copyFrom_3_14 s, s2, ?_, ?_, g_oth h ?_ fun c j k => fr c j (by omega) (by omega) (by omega)⟩
    · unfold X_undo
      rw [h1, k0]
      simp
    · unfold M_undo
      rw [e6 _ _ (by omega) (by omega), h2, h4]
      simp
    · refine t_St (b := 14) (r := 66) h3 (fun k i hk hi => ?_) (fun k i hk hi => ?_) (fun i hi => ?_) ?_ ?_ (fun j hj => ?_)
      · rw [h6 _ (by omega)]; exact e1 k i hk hi
      · rw [h6 _ (by omega)]; exact e2 k i hk hi
      · rw [h6 _ (by omega)]; exact e3 i hi
      · rw [h6 _ (by omega)]; exact e4
      · rw [h6 _ (by omega)]; exact e5
      · rw [h5 j hj]; exact e6 66 j (by omega) (by omega)
