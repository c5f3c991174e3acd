/-! a day: the pains, the set of those left out -/
theorem d_pain3 {f : Nat → Nat → Int32} (hL : y_law f) {d : Nat} (hd : d ≤ 9999) : ∀ k j s t, j + k = 16 → d_W3 f s t → s.2.1 3 5 = nI d → t.2.1 64 289 = nI d → s.2.1 36 13 = nI (d % 100) → ∀ m1 m2, k < m1 → k < m2 →
    ∃ s' t', XSt_changePain_3_36_l2 m1 (nI j) s = some s' ∧ M_dayGoes_l4 m2 0 (nI j) t = some t' ∧ d_W3 f s' t' ∧ s'.2.1 36 13 = nI (d % 100) ∧ (∀ c j, ¬ (c = 36 ∧ 9 ≤ j ∧ j ≤ 14) → c ≠ 10 → s'.2.1 c j = s.2.1 c j) ∧ (∀ c j, c ≠ 79 → c ≠ 80 → ¬ (c = 64 ∧ 60 ≤ j ∧ j < 76) → t'.2.1 c j = t.2.1 c j) := by
  intro k
  induction k with
  | zero =>
    intro j s t hj hW h5 h289 h13 m1 m2 hm1 hm2
    obtain rfl : j = 16 := by omega
    obtain ⟨m1, rfl⟩ : ∃ m, m1 = m + 1 := ⟨m1 - 1, by omega⟩
    obtain ⟨m2, rfl⟩ : ∃ m, m2 = m + 1 := ⟨m2 - 1, by omega⟩
    exact ⟨s, t, by rw [XSt_changePain_3_36_l2]; exact if_pos (by decide), by rw [M_dayGoes_l4]; exact if_pos (by decide), hW, h13, fun _ _ _ _ => rfl, fun _ _ _ _ _ => rfl⟩
  | succ k ih =>
    intro j s t hj hW h5 h289 h13 m1 m2 hm1 hm2
    obtain ⟨m1, rfl⟩ : ∃ m, m1 = m + 1 := ⟨m1 - 1, by omega⟩
    obtain ⟨m2, rfl⟩ : ∃ m, m2 = m + 1 := ⟨m2 - 1, by omega⟩
    obtain ⟨s1, t1, a1, a2, a3, a4, a5, a6⟩ := d_tell3 hW (p := j) (by omega) hd h5 h289 h13
    have hX1 : y_sX f s1 := fun c j hc => by rw [a3 c j (by omega)]; exact hW.2.2.1 c j hc
    have hM1 : y_sM f t1 := fun c j hc => by rw [a5 c (by omega)]; exact hW.2.2.2 c j hc
    obtain ⟨v2, s3, t3, b0, b1, b2, b3, b4⟩ := y_ask hL 119 (by decide) 99 (by omega) hX1 hM1 a6
    have b1 : XLa_ask_36 119 99 s1 = some (nI v2, s3) := b1
    have b3 : M_byLaw 119 99 t1 = some (nI v2, t3) := b3
    obtain ⟨v4, s5, t5, c0, c1, c2, c3, c4⟩ := y_ask hL 108 (by decide) 99 (by omega) (tX := s3) (tM := t3) (fun c j hc => by rw [b2]; exact hX1 c j hc) (fun c j hc => by rw [b4 c (by omega)]; exact hM1 c j hc) (by rw [b2, b4 80 (by omega)]; exact a6)
    have c1 : XLa_ask_36 108 99 s3 = some (nI v4, s5) := c1
    have c3 : M_byLaw 108 99 t3 = some (nI v4, t5) := c3
    have fX : ∀ c j, ¬ (c = 36 ∧ 9 ≤ j ∧ j ≤ 14) → s5.2.1 c j = s.2.1 c j := fun c j e => by rw [c2, b2, a3 c j e]
    have fM : ∀ c, c ≠ 79 → c ≠ 80 → t5.2.1 c = t.2.1 c := fun c e1 e2 => by rw [c4 c e1, b4 c e1, a5 c e2]
    have e13 : s5.2.1 36 13 = nI (d % 100) := by rw [c2, b2]; exact a4
    obtain ⟨p1, p2, p3, p4⟩ := hW.2.1 j (by omega)
    have hW5 : d_W3 f (ax_sI s5 10 j (t_c (s.2.1 10 j + nI v2 - nI v4))) (ax_sI t5 64 (60 + j) (t_c (s.2.1 10 j + nI v2 - nI v4))) := by
      refine ⟨fun i hi => ?_, fun p hp => ?_, fun c j hc => by rw [r_I (by omega), fX c j (by omega)]; exact hW.2.2.1 c j hc, fun c j hc => by rw [r_I (by omega), fM c (by omega) (by omega)]; exact hW.2.2.2 c j hc⟩
      · have h9 := hW.1 i hi
        have q : ∀ k, k < 5 → (ax_sI s5 10 j (t_c (s.2.1 10 j + nI v2 - nI v4))).2.1 (5 + k) i = s.2.1 (5 + k) i := fun k hk => by rw [r_I (by omega), fX _ _ (by omega)]
        have r : ∀ q, q < 60 → (ax_sI t5 64 (60 + j) (t_c (s.2.1 10 j + nI v2 - nI v4))).2.1 64 q = t.2.1 64 q := fun q hq => by rw [r_one _ _ (by omega), fM _ (by omega) (by omega)]
        simp only [v_ok, vX, vM] at h9 ⊢
        rw [q 0 (by omega), q 1 (by omega), q 2 (by omega), q 3 (by omega), q 4 (by omega), r _ (by omega), r (12 * 1 + i) (by omega), r (12 * 2 + i) (by omega), r (12 * 3 + i) (by omega), r (12 * 4 + i) (by omega)]
        exact h9
      · obtain ⟨q1, q2, q3, q4⟩ := hW.2.1 p hp
        rw [r_I (c := 11) (by omega), r_I (c := 12) (by omega), fX 11 p (by omega), fX 12 p (by omega), r_one 64 (76 + p) (by omega), r_one 64 (92 + p) (by omega), fM 64 (by omega) (by omega)]
        by_cases e : p = j
        · subst e
          rw [r_Ie, r_u, r_Ie, r_u]
          exact ⟨rfl, (t_c_eq _ s s).2, q3, q4⟩
        · rw [r_one 10 p (by omega), r_one 64 (60 + p) (by omega), fX 10 p (by omega), fM 64 (by omega) (by omega)]
          exact ⟨q1, q2, q3, q4⟩
    obtain ⟨s', t', g1, g2, g3, g4, g5, g6⟩ := ih (j + 1) _ _ (by omega) hW5 (by rw [r_I (by omega), fX _ _ (by omega)]; exact h5) (by rw [r_one _ _ (by omega), fM _ (by omega) (by omega)]; exact h289) (by rw [r_I (by omega)]; exact e13) m1 m2 (by omega) (by omega)
    refine ⟨s', t', ?_, ?_, g3, g4, fun c j e1 e2 => by rw [g5 c j e1 e2, r_I e2, fX c j e1], fun c j e1 e2 e3 => by rw [g6 c j e1 e2 e3, r_one c j (by omega), fM c e1 e2]⟩
    · rw [XSt_changePain_3_36_l2, if_neg (by rw [q_16, z_le (by omega) (by omega)]; omega)]
      simp (disch := omega) only [a1, b1, c1, z_cl, z_lt0, z_nle, or_self, if_false, z_1, fX 10 j (by omega), X_stp3 j (by omega)]
      exact g1
    · rw [M_dayGoes_l4, if_neg (by rw [q_16, z_le (by omega) (by omega)]; omega)]
      simp (disch := omega) only [a2, b3, c3, q_60, nI_add, z_cl, z_lt0, z_nle, or_self, if_false, fM 64 (by omega) (by omega), (t_c_eq _ _ _).1]
      rw [← p1, z_1]
      exact g2
theorem d_or1 (a b x : Int32) : a ||| b ||| (x ||| b) = a ||| x ||| b := by
  rw [Int32.or_assoc, Int32.or_comm x b, ← Int32.or_assoc b b x, Int32.or_self, Int32.or_comm b x, ← Int32.or_assoc]
theorem d_or2 (a b x : Int32) : a ||| b ||| x = a ||| x ||| b := by
  rw [Int32.or_assoc, Int32.or_comm b x, ← Int32.or_assoc]
theorem d_set3 {f : Nat → Nat → Int32} (hL : y_law f) {d : Nat} (hd : d ≤ 9999) (W : Nat → Int32) (bnd : Int32) : ∀ k j s t xa, j + k = 16 → d_W3 f s t → s.2.1 3 5 = nI d → t.2.1 64 289 = nI d → s.2.1 36 13 = nI (d % 100) → (∀ p, p < 16 → t.2.1 64 (60 + p) = W p) → t.2.1 63 3 = bnd → xa < 65536 → ∀ m1 m2, k < m1 → k < m2 →
    ∃ xa' s' t', XSt_leftOut_3_36_l4 m1 (nI xa) (nI j) s = some (nI xa', s') ∧ M_dayGoes_l74 m2 (z_or (g_A W bnd) j ||| nI xa) (nI j) t = some (z_or (g_A W bnd) 16 ||| nI xa', t') ∧ xa' < 65536 ∧ d_W3 f s' t' ∧ s'.2.1 36 13 = nI (d % 100) ∧ (∀ c j, ¬ (c = 36 ∧ 9 ≤ j ∧ j ≤ 14) → s'.2.1 c j = s.2.1 c j) ∧ (∀ c, c ≠ 79 → c ≠ 80 → t'.2.1 c = t.2.1 c) := by
  intro k
  induction k with
  | zero =>
    intro j s t xa hj hW h5 h289 h13 hw hb hxa m1 m2 hm1 hm2
    obtain rfl : j = 16 := by omega
    obtain ⟨m1, rfl⟩ : ∃ m, m1 = m + 1 := ⟨m1 - 1, by omega⟩
    obtain ⟨m2, rfl⟩ : ∃ m, m2 = m + 1 := ⟨m2 - 1, by omega⟩
    exact ⟨xa, s, t, by rw [XSt_leftOut_3_36_l4]; exact if_pos (by decide), by rw [M_dayGoes_l74]; exact if_pos (by decide), hxa, hW, h13, fun _ _ _ => rfl, fun _ _ _ => rfl⟩
  | succ k ih =>
    intro j s t xa hj hW h5 h289 h13 hw hb hxa m1 m2 hm1 hm2
    obtain ⟨m1, rfl⟩ : ∃ m, m1 = m + 1 := ⟨m1 - 1, by omega⟩
    obtain ⟨m2, rfl⟩ : ∃ m, m2 = m + 1 := ⟨m2 - 1, by omega⟩
    obtain ⟨s1, t1, a1, a2, a3, a4, a5, a6⟩ := d_tell3 hW (p := j) (by omega) hd h5 h289 h13
    have hX1 : y_sX f s1 := fun c j hc => by rw [a3 c j (by omega)]; exact hW.2.2.1 c j hc
    have hM1 : y_sM f t1 := fun c j hc => by rw [a5 c (by omega)]; exact hW.2.2.2 c j hc
    obtain ⟨v, s3, t3, b0, b1, b2, b3, b4⟩ := y_left hL hX1 hM1 a6
    have keep : ∀ (s4 t4 : ax_S), (∀ c j, ¬ (c = 36 ∧ 9 ≤ j ∧ j ≤ 14) → s4.2.1 c j = s.2.1 c j) → (∀ c, c ≠ 79 → c ≠ 80 → t4.2.1 c = t.2.1 c) → d_W3 f s4 t4 := fun s4 t4 fX fM => by
      refine ⟨fun i hi => ?_, fun p hp => ?_, fun c j hc => by rw [fX c j (by omega)]; exact hW.2.2.1 c j hc, fun c j hc => by rw [fM c (by omega) (by omega)]; exact hW.2.2.2 c j hc⟩
      · have h9 := hW.1 i hi
        have q : ∀ k, k < 5 → s4.2.1 (5 + k) i = s.2.1 (5 + k) i := fun k hk => fX _ _ (by omega)
        simp only [v_ok, vX, vM] at h9 ⊢
        rw [q 0 (by omega), q 1 (by omega), q 2 (by omega), q 3 (by omega), q 4 (by omega), fM 64 (by omega) (by omega)]
        exact h9
      · rw [fX 10 p (by omega), fX 11 p (by omega), fX 12 p (by omega), fM 64 (by omega) (by omega)]
        exact hW.2.1 p hp
    have fX : ∀ c j, ¬ (c = 36 ∧ 9 ≤ j ∧ j ≤ 14) → s3.2.1 c j = s.2.1 c j := fun c j e => by rw [b2, a3 c j e]
    have e13 : s3.2.1 36 13 = nI (d % 100) := by rw [b2]; exact a4
    have hbit : (1 : Int32) <<< (nI j &&& 31) = nI (2 ^ j) := x_shl j (by omega)
    have hpl : 2 ^ j < 65536 := x_plt (by omega)
    have hxo : nI xa ||| nI (2 ^ j) = nI (xa ||| 2 ^ j) := x_or _ _
    have hxl : xa ||| 2 ^ j < 65536 := Nat.or_lt_two_pow (n := 16) hxa hpl
    have hpt : t1.2.1 64 (60 + j) = W j := by rw [a5 _ (by omega)]; exact hw j (by omega)
    have hbt : t1.2.1 63 3 = bnd := by rw [a5 _ (by omega)]; exact hb
    -- the class's next set
    obtain ⟨xn, hxn, hX, hXm⟩ : ∃ xn, xn < 65536 ∧ XSt_leftOut_3_36_l4 (m1 + 1) (nI xa) (nI j) s = XSt_leftOut_3_36_l4 m1 (nI xn) (nI (j + 1)) s3 ∧ ((v = 0 ∧ xn = xa) ∨ (v = 1 ∧ nI xn = nI xa ||| nI (2 ^ j))) := by
      rcases b0 with rfl | rfl
      · refine ⟨xa, hxa, ?_, Or.inl ⟨rfl, rfl⟩⟩
        rw [XSt_leftOut_3_36_l4, if_neg (by rw [q_16, z_le (by omega) (by omega)]; omega)]
        simp only [a1, b1, if_true, z_1]
      · refine ⟨xa ||| 2 ^ j, hxl, ?_, Or.inr ⟨rfl, hxo.symm⟩⟩
        rw [XSt_leftOut_3_36_l4, if_neg (by rw [q_16, z_le (by omega) (by omega)]; omega)]
        simp only [a1, b1, z_10, if_false, z_1, hbit, hxo]
    have hz : z_or (g_A W bnd) (j + 1) = z_or (g_A W bnd) j ||| g_A W bnd j := rfl
    by_cases c : bnd < W j
    · have hg : g_A W bnd j = nI (2 ^ j) := by unfold g_A; rw [if_neg (Int32.not_le.mpr c), hbit]
      have hnew : z_or (g_A W bnd) j ||| nI xa ||| nI (2 ^ j) = z_or (g_A W bnd) (j + 1) ||| nI xn := by
        rw [hz, hg]
        rcases hXm with ⟨-, rfl⟩ | ⟨-, h⟩
        · rw [d_or2]
        · rw [h, d_or1]
      have fM : ∀ c, c ≠ 79 → c ≠ 80 → t1.2.1 c = t.2.1 c := fun c _ e => a5 c e
      obtain ⟨xa', s', t', g1, g2, g3, g4, g5, g6, g7⟩ := ih (j + 1) s3 t1 xn (by omega) (keep _ _ fX fM) (by rw [fX _ _ (by omega)]; exact h5) (by rw [a5 _ (by omega)]; exact h289) e13 (fun p hp => by rw [a5 _ (by omega)]; exact hw p hp) hbt hxn m1 m2 (by omega) (by omega)
      refine ⟨xa', s', t', hX.trans g1, ?_, g3, g4, g5, fun c j e => by rw [g6 c j e, fX c j e], fun c e1 e2 => by rw [g7 c e1 e2, fM c e1 e2]⟩
      rw [M_dayGoes_l74, if_neg (by rw [q_16, z_le (by omega) (by omega)]; omega), a2]
      simp (disch := omega) only [q_60, nI_add, z_cl, z_lt0, z_nle, or_self, if_false, hpt, hbt]
      rw [if_pos c, hbit, hnew, z_1]
      exact g2
    · have hg : g_A W bnd j = 0 := by unfold g_A; rw [if_pos (Int32.not_lt.mp c)]
      have fM : ∀ c, c ≠ 79 → c ≠ 80 → t3.2.1 c = t.2.1 c := fun c e1 e => by rw [b4 c e1, a5 c e]
      obtain ⟨xa', s', t', g1, g2, g3, g4, g5, g6, g7⟩ := ih (j + 1) s3 t3 xn (by omega) (keep _ _ fX fM) (by rw [fX _ _ (by omega)]; exact h5) (by rw [fM _ (by omega) (by omega)]; exact h289) e13 (fun p hp => by rw [fM _ (by omega) (by omega)]; exact hw p hp) (by rw [fM _ (by omega) (by omega)]; exact hb) hxn m1 m2 (by omega) (by omega)
      refine ⟨xa', s', t', hX.trans g1, ?_, g3, g4, g5, fun c j e => by rw [g6 c j e, fX c j e], fun c e1 e2 => by rw [g7 c e1 e2, fM c e1 e2]⟩
      rw [M_dayGoes_l74, if_neg (by rw [q_16, z_le (by omega) (by omega)]; omega), a2]
      simp (disch := omega) only [q_60, nI_add, z_cl, z_lt0, z_nle, or_self, if_false, hpt, hbt]
      rw [if_neg c, b3]
      rw [hz, hg, Int32.or_zero] at g2
      rcases hXm with ⟨rfl, rfl⟩ | ⟨rfl, h⟩
      · simp only [if_true, z_1]
        exact g2
      · simp only [z_10, if_false, z_1]
        rw [hbit, Int32.or_assoc, ← h]
        exact g2
