/-! the draft: a person told, the pains, the set, the slip -/
def d_W3Q (f : Nat → Nat → Int32) (s t : ax_S) : Prop := v_R (vX s.2.1 27) (vM t.2.1 64) ∧ (∀ p, p < 16 → s.2.1 32 p = t.2.1 64 (60 + p) ∧ (∃ n, n ≤ 99 ∧ t.2.1 64 (60 + p) = nI n) ∧ s.2.1 33 p = t.2.1 64 (76 + p) ∧ s.2.1 34 p = t.2.1 64 (92 + p) + 1) ∧ y_sX f s ∧ y_sM f t
theorem d_tell3Q {f : Nat → Nat → Int32} {s t : ax_S} (hW : d_W3Q f s t) {p d : Nat} (hp : p < 16) (hd : d ≤ 9999) (h5 : s.2.1 25 5 = nI d) (h289 : t.2.1 64 289 = nI d) (h13 : s.2.1 36 13 = nI (d % 100)) :
    ∃ s1 t1, XSt_tellOf_25_36 (nI p) s = some s1 ∧ M_feels (nI p) t = some t1 ∧ (∀ c j, ¬ (c = 36 ∧ 9 ≤ j ∧ j ≤ 14) → s1.2.1 c j = s.2.1 c j) ∧ s1.2.1 36 13 = nI (d % 100) ∧ (∀ c, c ≠ 80 → t1.2.1 c = t.2.1 c) ∧ y_e (fun i => s1.2.1 36 (9 + i)) = y_e (t1.2.1 80) := by
  obtain ⟨hR, hP, -, -⟩ := hW
  obtain ⟨p1, -, p3, p4⟩ := hP p hp
  have hn : z_sum (g_N (s.2.1 27) (nI p)) 12 = z_sum (g_N (t.2.1 64) (nI p)) 12 := z_sum_congr 12 fun i hi => by
    have := (hR i hi).1
    simp only [vX, vM, Nat.mul_zero, Nat.zero_add, Nat.add_zero] at this
    unfold g_N; rw [this]
  unfold XSt_tellOf_25_36 M_feels XSt_painOf_25 XSt_shownOf_25 XSt_daysSinceShown_25
  rw [X_per1 p hp, XFi_howManyOf_26_eq]
  simp (disch := omega) only [z_10, q_60, q_76, nI_add, z_cl, z_lt0, z_nle, or_self, if_false, M_figuresOf_eq]
  unfold M_daysSince
  simp (disch := omega) only [q_92, nI_add, z_cl, z_lt0, z_nle, or_self, if_false, r_I]
  rw [p4, d_since, h289, h5, ← hn, p1, p3]
  have e100 : nI d - nI d / 100 * 100 = nI (d % 100) := z_rem (a := d) (d := 100) (by omega) (by omega) (by omega)
  rw [e100]
  by_cases c : t.2.1 64 (92 + p) = -1
  · rw [if_pos c, if_pos ((d_m1 _).mpr c)]
    simp only []
    unfold XLa_setPerson_36
    refine ⟨_, _, rfl, rfl, fun c j e => ?_, ?_, fun c e => ?_, ?_⟩
    · rw [r_one c j (by omega), r_two c j (by omega) (by omega), r_two c j (by omega) (by omega)]
    · simp (disch := omega) only [r_Ie, r_un]; exact h13
    · simp (disch := omega) only [r_I]
    · funext i
      unfold y_e
      by_cases hi : i < 6
      · have h : i = 0 ∨ i = 1 ∨ i = 2 ∨ i = 3 ∨ i = 4 ∨ i = 5 := by omega
        rcases h with rfl | rfl | rfl | rfl | rfl | rfl
        all_goals simp (disch := omega) only [if_pos, Nat.reduceAdd, r_Ie, r_un, r_u, h13]
      · rw [if_neg hi, if_neg hi]
  · rw [if_neg c, if_neg (fun h => c ((d_m1 _).mp h)), d_min]
    simp only []
    unfold XLa_setPerson_36
    refine ⟨_, _, rfl, rfl, fun c j e => ?_, ?_, fun c e => ?_, ?_⟩
    · rw [r_one c j (by omega), r_two c j (by omega) (by omega), r_two c j (by omega) (by omega)]
    · simp (disch := omega) only [r_Ie, r_un]; exact h13
    · simp (disch := omega) only [r_I]
    · funext i
      unfold y_e
      by_cases hi : i < 6
      · have h : i = 0 ∨ i = 1 ∨ i = 2 ∨ i = 3 ∨ i = 4 ∨ i = 5 := by omega
        rcases h with rfl | rfl | rfl | rfl | rfl | rfl
        all_goals simp (disch := omega) only [if_pos, Nat.reduceAdd, r_Ie, r_un, r_u, h13]
      · rw [if_neg hi, if_neg hi]
theorem d_pain3Q {f : Nat → Nat → Int32} (hL : y_law f) {d : Nat} (hd : d ≤ 9999) : ∀ k j s t, j + k = 16 → d_W3Q f s t → s.2.1 25 5 = nI d → t.2.1 64 289 = nI d → s.2.1 36 13 = nI (d % 100) → ∀ m1 m2, k < m1 → k < m2 →
    ∃ s' t', XSt_changePain_25_36_l2 m1 (nI j) s = some s' ∧ M_dayGoes_l4 m2 0 (nI j) t = some t' ∧ d_W3Q f s' t' ∧ s'.2.1 36 13 = nI (d % 100) ∧ (∀ c j, ¬ (c = 36 ∧ 9 ≤ j ∧ j ≤ 14) → c ≠ 32 → s'.2.1 c j = s.2.1 c j) ∧ (∀ c j, c ≠ 79 → c ≠ 80 → ¬ (c = 64 ∧ 60 ≤ j ∧ j < 76) → t'.2.1 c j = t.2.1 c j) := by
  intro k
  induction k with
  | zero =>
    intro j s t hj hW h5 h289 h13 m1 m2 hm1 hm2
    obtain rfl : j = 16 := by omega
    obtain ⟨m1, rfl⟩ : ∃ m, m1 = m + 1 := ⟨m1 - 1, by omega⟩
    obtain ⟨m2, rfl⟩ : ∃ m, m2 = m + 1 := ⟨m2 - 1, by omega⟩
    exact ⟨s, t, by rw [XSt_changePain_25_36_l2]; exact if_pos (by decide), by rw [M_dayGoes_l4]; exact if_pos (by decide), hW, h13, fun _ _ _ _ => rfl, fun _ _ _ _ _ => rfl⟩
  | succ k ih =>
    intro j s t hj hW h5 h289 h13 m1 m2 hm1 hm2
    obtain ⟨m1, rfl⟩ : ∃ m, m1 = m + 1 := ⟨m1 - 1, by omega⟩
    obtain ⟨m2, rfl⟩ : ∃ m, m2 = m + 1 := ⟨m2 - 1, by omega⟩
    obtain ⟨s1, t1, a1, a2, a3, a4, a5, a6⟩ := d_tell3Q hW (p := j) (by omega) hd h5 h289 h13
    have hX1 : y_sX f s1 := fun c j hc => by rw [a3 c j (by omega)]; exact hW.2.2.1 c j hc
    have hM1 : y_sM f t1 := fun c j hc => by rw [a5 c (by omega)]; exact hW.2.2.2 c j hc
    obtain ⟨v2, s3, t3, b0, b1, b2, b3, b4⟩ := y_ask hL 119 (by decide) 99 (by omega) hX1 hM1 a6
    have b1 : XLa_ask_36 119 99 s1 = some (nI v2, s3) := b1
    have b3 : M_byLaw 119 99 t1 = some (nI v2, t3) := b3
    obtain ⟨v4, s5, t5, c0, c1, c2, c3, c4⟩ := y_ask hL 108 (by decide) 99 (by omega) (tX := s3) (tM := t3) (fun c j hc => by rw [b2]; exact hX1 c j hc) (fun c j hc => by rw [b4 c (by omega)]; exact hM1 c j hc) (by rw [b2, b4 80 (by omega)]; exact a6)
    have c1 : XLa_ask_36 108 99 s3 = some (nI v4, s5) := c1
    have c3 : M_byLaw 108 99 t3 = some (nI v4, t5) := c3
    have fX : ∀ c j, ¬ (c = 36 ∧ 9 ≤ j ∧ j ≤ 14) → s5.2.1 c j = s.2.1 c j := fun c j e => by rw [c2, b2, a3 c j e]
    have fM : ∀ c, c ≠ 79 → c ≠ 80 → t5.2.1 c = t.2.1 c := fun c e1 e2 => by rw [c4 c e1, b4 c e1, a5 c e2]
    have e13 : s5.2.1 36 13 = nI (d % 100) := by rw [c2, b2]; exact a4
    obtain ⟨p1, p2, p3, p4⟩ := hW.2.1 j (by omega)
    have hW5 : d_W3Q f (ax_sI s5 32 j (t_c (s.2.1 32 j + nI v2 - nI v4))) (ax_sI t5 64 (60 + j) (t_c (s.2.1 32 j + nI v2 - nI v4))) := by
      refine ⟨fun i hi => ?_, fun p hp => ?_, fun c j hc => by rw [r_I (by omega), fX c j (by omega)]; exact hW.2.2.1 c j hc, fun c j hc => by rw [r_I (by omega), fM c (by omega) (by omega)]; exact hW.2.2.2 c j hc⟩
      · have h9 := hW.1 i hi
        have q : ∀ k, k < 5 → (ax_sI s5 32 j (t_c (s.2.1 32 j + nI v2 - nI v4))).2.1 (27 + k) i = s.2.1 (27 + k) i := fun k hk => by rw [r_I (by omega), fX _ _ (by omega)]
        have r : ∀ q, q < 60 → (ax_sI t5 64 (60 + j) (t_c (s.2.1 32 j + nI v2 - nI v4))).2.1 64 q = t.2.1 64 q := fun q hq => by rw [r_one _ _ (by omega), fM _ (by omega) (by omega)]
        simp only [v_ok, vX, vM] at h9 ⊢
        rw [q 0 (by omega), q 1 (by omega), q 2 (by omega), q 3 (by omega), q 4 (by omega), r _ (by omega), r (12 * 1 + i) (by omega), r (12 * 2 + i) (by omega), r (12 * 3 + i) (by omega), r (12 * 4 + i) (by omega)]
        exact h9
      · obtain ⟨q1, q2, q3, q4⟩ := hW.2.1 p hp
        rw [r_I (c := 33) (by omega), r_I (c := 34) (by omega), fX 33 p (by omega), fX 34 p (by omega), r_one 64 (76 + p) (by omega), r_one 64 (92 + p) (by omega), fM 64 (by omega) (by omega)]
        by_cases e : p = j
        · subst e
          rw [r_Ie, r_u, r_Ie, r_u]
          exact ⟨rfl, (t_c_eq _ s s).2, q3, q4⟩
        · rw [r_one 32 p (by omega), r_one 64 (60 + p) (by omega), fX 32 p (by omega), fM 64 (by omega) (by omega)]
          exact ⟨q1, q2, q3, q4⟩
    obtain ⟨s', t', g1, g2, g3, g4, g5, g6⟩ := ih (j + 1) _ _ (by omega) hW5 (by rw [r_I (by omega), fX _ _ (by omega)]; exact h5) (by rw [r_one _ _ (by omega), fM _ (by omega) (by omega)]; exact h289) (by rw [r_I (by omega)]; exact e13) m1 m2 (by omega) (by omega)
    refine ⟨s', t', ?_, ?_, g3, g4, fun c j e1 e2 => by rw [g5 c j e1 e2, r_I e2, fX c j e1], fun c j e1 e2 e3 => by rw [g6 c j e1 e2 e3, r_one c j (by omega), fM c e1 e2]⟩
    · rw [XSt_changePain_25_36_l2, if_neg (by rw [q_16, z_le (by omega) (by omega)]; omega)]
      simp (disch := omega) only [a1, b1, c1, z_cl, z_lt0, z_nle, or_self, if_false, z_1, fX 32 j (by omega), X_stp j (by omega)]
      exact g1
    · rw [M_dayGoes_l4, if_neg (by rw [q_16, z_le (by omega) (by omega)]; omega)]
      simp (disch := omega) only [a2, b3, c3, q_60, nI_add, z_cl, z_lt0, z_nle, or_self, if_false, fM 64 (by omega) (by omega), (t_c_eq _ _ _).1]
      rw [← p1, z_1]
      exact g2
theorem d_set3Q {f : Nat → Nat → Int32} (hL : y_law f) {d : Nat} (hd : d ≤ 9999) (W : Nat → Int32) (bnd : Int32) : ∀ k j s t xa, j + k = 16 → d_W3Q f s t → s.2.1 25 5 = nI d → t.2.1 64 289 = nI d → s.2.1 36 13 = nI (d % 100) → (∀ p, p < 16 → t.2.1 64 (60 + p) = W p) → t.2.1 63 3 = bnd → xa < 65536 → ∀ m1 m2, k < m1 → k < m2 →
    ∃ xa' s' t', XSt_leftOut_25_36_l4 m1 (nI xa) (nI j) s = some (nI xa', s') ∧ M_dayGoes_l74 m2 (z_or (g_A W bnd) j ||| nI xa) (nI j) t = some (z_or (g_A W bnd) 16 ||| nI xa', t') ∧ xa' < 65536 ∧ d_W3Q f s' t' ∧ s'.2.1 36 13 = nI (d % 100) ∧ (∀ c j, ¬ (c = 36 ∧ 9 ≤ j ∧ j ≤ 14) → s'.2.1 c j = s.2.1 c j) ∧ (∀ c, c ≠ 79 → c ≠ 80 → t'.2.1 c = t.2.1 c) := by
  intro k
  induction k with
  | zero =>
    intro j s t xa hj hW h5 h289 h13 hw hb hxa m1 m2 hm1 hm2
    obtain rfl : j = 16 := by omega
    obtain ⟨m1, rfl⟩ : ∃ m, m1 = m + 1 := ⟨m1 - 1, by omega⟩
    obtain ⟨m2, rfl⟩ : ∃ m, m2 = m + 1 := ⟨m2 - 1, by omega⟩
    exact ⟨xa, s, t, by rw [XSt_leftOut_25_36_l4]; exact if_pos (by decide), by rw [M_dayGoes_l74]; exact if_pos (by decide), hxa, hW, h13, fun _ _ _ => rfl, fun _ _ _ => rfl⟩
  | succ k ih =>
    intro j s t xa hj hW h5 h289 h13 hw hb hxa m1 m2 hm1 hm2
    obtain ⟨m1, rfl⟩ : ∃ m, m1 = m + 1 := ⟨m1 - 1, by omega⟩
    obtain ⟨m2, rfl⟩ : ∃ m, m2 = m + 1 := ⟨m2 - 1, by omega⟩
    obtain ⟨s1, t1, a1, a2, a3, a4, a5, a6⟩ := d_tell3Q hW (p := j) (by omega) hd h5 h289 h13
    have hX1 : y_sX f s1 := fun c j hc => by rw [a3 c j (by omega)]; exact hW.2.2.1 c j hc
    have hM1 : y_sM f t1 := fun c j hc => by rw [a5 c (by omega)]; exact hW.2.2.2 c j hc
    obtain ⟨v, s3, t3, b0, b1, b2, b3, b4⟩ := y_left hL hX1 hM1 a6
    have keep : ∀ (s4 t4 : ax_S), (∀ c j, ¬ (c = 36 ∧ 9 ≤ j ∧ j ≤ 14) → s4.2.1 c j = s.2.1 c j) → (∀ c, c ≠ 79 → c ≠ 80 → t4.2.1 c = t.2.1 c) → d_W3Q f s4 t4 := fun s4 t4 fX fM => by
      refine ⟨fun i hi => ?_, fun p hp => ?_, fun c j hc => by rw [fX c j (by omega)]; exact hW.2.2.1 c j hc, fun c j hc => by rw [fM c (by omega) (by omega)]; exact hW.2.2.2 c j hc⟩
      · have h9 := hW.1 i hi
        have q : ∀ k, k < 5 → s4.2.1 (27 + k) i = s.2.1 (27 + k) i := fun k hk => fX _ _ (by omega)
        simp only [v_ok, vX, vM] at h9 ⊢
        rw [q 0 (by omega), q 1 (by omega), q 2 (by omega), q 3 (by omega), q 4 (by omega), fM 64 (by omega) (by omega)]
        exact h9
      · rw [fX 32 p (by omega), fX 33 p (by omega), fX 34 p (by omega), fM 64 (by omega) (by omega)]
        exact hW.2.1 p hp
    have fX : ∀ c j, ¬ (c = 36 ∧ 9 ≤ j ∧ j ≤ 14) → s3.2.1 c j = s.2.1 c j := fun c j e => by rw [b2, a3 c j e]
    have e13 : s3.2.1 36 13 = nI (d % 100) := by rw [b2]; exact a4
    have hbit : (1 : Int32) <<< (nI j &&& 31) = nI (2 ^ j) := x_shl j (by omega)
    have hpl : 2 ^ j < 65536 := x_plt (by omega)
    have hxo : nI xa ||| nI (2 ^ j) = nI (xa ||| 2 ^ j) := x_or _ _
    have hxl : xa ||| 2 ^ j < 65536 := Nat.or_lt_two_pow (n := 16) hxa hpl
    have hpt : t1.2.1 64 (60 + j) = W j := by rw [a5 _ (by omega)]; exact hw j (by omega)
    have hbt : t1.2.1 63 3 = bnd := by rw [a5 _ (by omega)]; exact hb
    -- the class's next set
    obtain ⟨xn, hxn, hX, hXm⟩ : ∃ xn, xn < 65536 ∧ XSt_leftOut_25_36_l4 (m1 + 1) (nI xa) (nI j) s = XSt_leftOut_25_36_l4 m1 (nI xn) (nI (j + 1)) s3 ∧ ((v = 0 ∧ xn = xa) ∨ (v = 1 ∧ nI xn = nI xa ||| nI (2 ^ j))) := by
      rcases b0 with rfl | rfl
      · refine ⟨xa, hxa, ?_, Or.inl ⟨rfl, rfl⟩⟩
        rw [XSt_leftOut_25_36_l4, if_neg (by rw [q_16, z_le (by omega) (by omega)]; omega)]
        simp only [a1, b1, if_true, z_1]
      · refine ⟨xa ||| 2 ^ j, hxl, ?_, Or.inr ⟨rfl, hxo.symm⟩⟩
        rw [XSt_leftOut_25_36_l4, if_neg (by rw [q_16, z_le (by omega) (by omega)]; omega)]
        simp only [a1, b1, z_10, if_false, z_1, hbit, hxo]
    have hz : z_or (g_A W bnd) (j + 1) = z_or (g_A W bnd) j ||| g_A W bnd j := rfl
    by_cases c : bnd < W j
    · have hg : g_A W bnd j = nI (2 ^ j) := by unfold g_A; rw [if_neg (Int32.not_le.mpr c), hbit]
      have hnew : z_or (g_A W bnd) j ||| nI xa ||| nI (2 ^ j) = z_or (g_A W bnd) (j + 1) ||| nI xn := by
        rw [hz, hg]
        rcases hXm with ⟨-, rfl⟩ | ⟨-, h⟩
        · rw [d_or2]
        · rw [h, d_or1]
      have fM : ∀ c, c ≠ 79 → c ≠ 80 → t1.2.1 c = t.2.1 c := fun c _ e => a5 c e
      obtain ⟨xa', s', t', g1, g2, g3, g4, g5, g6, g7⟩ := ih (j + 1) s3 t1 xn (by omega) (keep _ _ fX fM) (by rw [fX _ _ (by omega)]; exact h5) (by rw [a5 _ (by omega)]; exact h289) e13 (fun p hp => by rw [a5 _ (by omega)]; exact hw p hp) hbt hxn m1 m2 (by omega) (by omega)
      refine ⟨xa', s', t', hX.trans g1, ?_, g3, g4, g5, fun c j e => by rw [g6 c j e, fX c j e], fun c e1 e2 => by rw [g7 c e1 e2, fM c e1 e2]⟩
      rw [M_dayGoes_l74, if_neg (by rw [q_16, z_le (by omega) (by omega)]; omega), a2]
      simp (disch := omega) only [q_60, nI_add, z_cl, z_lt0, z_nle, or_self, if_false, hpt, hbt]
      rw [if_pos c, hbit, hnew, z_1]
      exact g2
    · have hg : g_A W bnd j = 0 := by unfold g_A; rw [if_pos (Int32.not_lt.mp c)]
      have fM : ∀ c, c ≠ 79 → c ≠ 80 → t3.2.1 c = t.2.1 c := fun c e1 e => by rw [b4 c e1, a5 c e]
      obtain ⟨xa', s', t', g1, g2, g3, g4, g5, g6, g7⟩ := ih (j + 1) s3 t3 xn (by omega) (keep _ _ fX fM) (by rw [fX _ _ (by omega)]; exact h5) (by rw [fM _ (by omega) (by omega)]; exact h289) e13 (fun p hp => by rw [fM _ (by omega) (by omega)]; exact hw p hp) (by rw [fM _ (by omega) (by omega)]; exact hb) hxn m1 m2 (by omega) (by omega)
      refine ⟨xa', s', t', hX.trans g1, ?_, g3, g4, g5, fun c j e => by rw [g6 c j e, fX c j e], fun c e1 e2 => by rw [g7 c e1 e2, fM c e1 e2]⟩
      rw [M_dayGoes_l74, if_neg (by rw [q_16, z_le (by omega) (by omega)]; omega), a2]
      simp (disch := omega) only [q_60, nI_add, z_cl, z_lt0, z_nle, or_self, if_false, hpt, hbt]
      rw [if_neg c, b3]
      rw [hz, hg, Int32.or_zero] at g2
      rcases hXm with ⟨rfl, rfl⟩ | ⟨rfl, h⟩
      · simp only [if_true, z_1]
        exact g2
      · simp only [z_10, if_false, z_1]
        rw [hbit, Int32.or_assoc, ← h]
        exact g2
theorem d_slip3Q {f : Nat → Nat → Int32} (hL : y_law f) {s t : ax_S} (hX : y_sX f s) (hM : y_sM f t) {d x : Nat} (hd : d ≤ 9999) (hx : x ≤ 65535) (h6 : s.2.1 25 6 = nI x) (h290 : t.2.1 64 290 = nI x) (h289 : t.2.1 64 289 = nI d) (h13 : s.2.1 36 13 = nI (d % 100)) :
    ∃ σ s7 t13 v14 t15, σ ≤ 1 ∧ XSt_slip_25_36 s = some (nI σ, s7) ∧ s7.2.1 25 6 = nI ((25173 * x + 13849) % 65536) ∧ s7.2.1 25 8 = s.2.1 25 8 + nI σ ∧ (∀ c j, ¬ (c = 25 ∧ (j = 6 ∨ j = 8)) → ¬ (c = 36 ∧ 9 ≤ j ∧ j ≤ 14) → s7.2.1 c j = s.2.1 c j) ∧
      M_dayGoes_l129 70000 0 t = some t13 ∧ t13.2.1 64 289 = nI d ∧ M_byLaw 104 10 (ax_sI t13 80 4 (nI (d % 100))) = some (v14, t15) ∧ (∀ c, c ≠ 79 → c ≠ 80 → t15.2.1 c = t.2.1 c) ∧ (∀ u, M_dayGoes_j214 (nI ((25173 * x + 13849) % 65536) - nI ((25173 * x + 13849) % 65536) / 10 * 10) v14 u = some (nI σ)) := by
  obtain ⟨t13, a1, a2, a3⟩ : ∃ t13, M_dayGoes_l129 70000 0 t = some t13 ∧ (∀ j, j < 6 → t13.2.1 80 j = 0) ∧ ∀ c, c ≠ 80 → t13.2.1 c = t.2.1 c := by
    obtain ⟨b, h1, h2⟩ := z_for (fun n k (a : ax_S) => M_dayGoes_l129 n (nI k) a) 6 (fun k a => (∀ j, j < k → a.2.1 80 j = 0) ∧ ∀ c, c ≠ 80 → a.2.1 c = t.2.1 c) (fun b => (∀ j, j < 6 → b.2.1 80 j = 0) ∧ ∀ c, c ≠ 80 → b.2.1 c = t.2.1 c) (fun n a ha => ⟨a, by
        show M_dayGoes_l129 (n + 1) (nI 6) a = some a
        rw [M_dayGoes_l129]
        exact if_pos (by decide), ha⟩) (fun n k a hk ha => Or.inr ⟨ax_sI a 80 k 0, by
        show M_dayGoes_l129 (n + 1) (nI k) a = M_dayGoes_l129 n (nI (k + 1)) _
        rw [M_dayGoes_l129]
        simp (disch := omega) only [q_6, z_1, z_cl, z_lt0, z_le, z_nle, if_false, or_self], by
        refine ⟨fun j hj => ?_, fun c hc => ?_⟩
        · rw [r_Ie]
          by_cases hjk : j = k
          · subst hjk; rw [r_u]
          · rw [r_un hjk]; exact ha.1 j (by omega)
        · rw [r_I hc]; exact ha.2 c hc⟩) 70000 0 t (by omega) ⟨fun j hj => absurd hj (Nat.not_lt_zero _), fun _ _ => rfl⟩ (by omega)
    exact ⟨b, h1, h2⟩
  obtain ⟨sd1, sd2⟩ := d_seed x hx
  generalize hS : XLa_setPerson_36 0 0 0 0 0 (ax_sI s 25 6 (nI ((25173 * x + 13849) % 65536))) = S0
  have S1 : ∀ c j, ¬ (c = 25 ∧ j = 6) → ¬ (c = 36 ∧ 9 ≤ j ∧ j ≤ 14) → S0.2.1 c j = s.2.1 c j := fun c j e1 e2 => by
    rw [← hS]; unfold XLa_setPerson_36
    rw [r_one c j (by omega), r_two c j (by omega) (by omega), r_two c j (by omega) (by omega), r_one c j e1]
  have S2 : S0.2.1 25 6 = nI ((25173 * x + 13849) % 65536) := by
    rw [← hS]; unfold XLa_setPerson_36
    simp (disch := omega) only [r_I, r_Ie, r_u]
  have S3 : ∀ j, j < 6 → S0.2.1 36 (9 + j) = if j = 4 then nI (d % 100) else 0 := fun j hj => by
    rw [← hS]; unfold XLa_setPerson_36
    have h : j = 0 ∨ j = 1 ∨ j = 2 ∨ j = 3 ∨ j = 4 ∨ j = 5 := by omega
    rcases h with rfl | rfl | rfl | rfl | rfl | rfl
    all_goals simp (disch := omega) only [Nat.reduceAdd, r_Ie, r_un, r_u, r_I, h13, if_true, if_false]
    all_goals rfl
  obtain ⟨k, s2, t15, k0, b1, b2, b3, b4⟩ := y_ask hL 104 (by decide) 10 (by omega) (tX := S0) (tM := ax_sI t13 80 4 (nI (d % 100))) (fun c j hc => by rw [S1 c j (by omega) (by omega)]; exact hX c j hc) (fun c j hc => by rw [r_I (by omega), a3 c (by omega)]; exact hM c j hc) (by
    funext i
    unfold y_e
    by_cases hi : i < 6
    · rw [if_pos hi, if_pos hi]
      show S0.2.1 36 (9 + i) = _
      rw [S3 i hi]
      by_cases h4 : i = 4
      · subst h4; rw [if_pos rfl, r_Ie, r_u]
      · rw [if_neg h4, r_one 80 i (by omega), a2 i hi]
    · rw [if_neg hi, if_neg hi])
  have b1 : XLa_ask_36 104 10 S0 = some (nI k, s2) := b1
  have b3 : M_byLaw 104 10 (ax_sI t13 80 4 (nI (d % 100))) = some (nI k, t15) := b3
  have e10 : nI ((25173 * x + 13849) % 65536) - nI ((25173 * x + 13849) % 65536) / 10 * 10 = nI ((25173 * x + 13849) % 65536 % 10) := z_rem (a := (25173 * x + 13849) % 65536) (d := 10) (by omega) (by omega) (by omega)
  have hslip : XSt_slip_25_36 s = if k ≤ (25173 * x + 13849) % 65536 % 10 then some (0, s2) else some (1, ax_sI s2 25 8 (s2.2.1 25 8 + 1)) := by
    unfold XSt_slip_25_36
    rw [h6, sd1, hS, b1]
    unfold XSt_slip_25_36_j43
    simp only [S2, e10]
    have hk : nI k ≤ nI ((25173 * x + 13849) % 65536 % 10) ↔ k ≤ (25173 * x + 13849) % 65536 % 10 := by rw [z_le (by omega) (by omega)]
    by_cases c : k ≤ (25173 * x + 13849) % 65536 % 10
    · simp only [if_pos c, if_pos (hk.mpr c), if_true]
      rfl
    · simp only [if_neg c, if_neg (fun e => c (hk.mp e)), z_10, if_false]
      rfl
  have hj : ∀ u, M_dayGoes_j214 (nI ((25173 * x + 13849) % 65536) - nI ((25173 * x + 13849) % 65536) / 10 * 10) (nI k) u = if k ≤ (25173 * x + 13849) % 65536 % 10 then some 0 else some 1 := fun u => by
    unfold M_dayGoes_j214
    rw [e10]
    have hk : nI k ≤ nI ((25173 * x + 13849) % 65536 % 10) ↔ k ≤ (25173 * x + 13849) % 65536 % 10 := by rw [z_le (by omega) (by omega)]
    by_cases c : k ≤ (25173 * x + 13849) % 65536 % 10
    · rw [if_pos c, if_pos (hk.mpr c)]
    · rw [if_neg c, if_neg (fun e => c (hk.mp e))]
  have fM : ∀ c, c ≠ 79 → c ≠ 80 → t15.2.1 c = t.2.1 c := fun c e1 e2 => by rw [b4 c e1, r_I e2, a3 c e2]
  by_cases c : k ≤ (25173 * x + 13849) % 65536 % 10
  · rw [if_pos c] at hslip
    refine ⟨0, s2, t13, nI k, t15, by omega, hslip, by rw [b2]; exact S2, ?_, fun c j e1 e2 => by rw [b2]; exact S1 c j (by omega) e2, a1, by rw [a3 _ (by omega)]; exact h289, b3, fM, fun u => by rw [hj u, if_pos c]; rfl⟩
    rw [b2, S1 25 8 (by omega) (by omega)]
    exact (Int32.add_zero _).symm
  · rw [if_neg c] at hslip
    refine ⟨1, _, t13, nI k, t15, by omega, hslip, by rw [r_one _ _ (by omega), b2]; exact S2, ?_, fun c j e1 e2 => by rw [r_one c j (by omega), b2]; exact S1 c j (by omega) e2, a1, by rw [a3 _ (by omega)]; exact h289, b3, fM, fun u => by rw [hj u, if_neg c]; rfl⟩
    rw [r_Ie, r_u, b2, S1 25 8 (by omega) (by omega)]
    rfl
