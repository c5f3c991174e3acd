/-! the draft: figures, sets, the cut -/
theorem X_told_eqQ (s : ax_S) (k : Nat) (h : k < 12) : XFi_isTold_26 (nI k) s = some (if s.2.1 27 k = -1 then 0 else 1) := by
  unfold XFi_isTold_26
  simp (disch := omega) only [q_12, z_cl, z_lt0, z_le, z_nlt, z_nle, if_false, or_self]
  split <;> rfl
theorem X_pbit_eqQ (s : ax_S) (k : Nat) (h : k < 12) : XFi_personBit_26 (nI k) s = some (v_bit (vX s.2.1 27) k) := by
  unfold XFi_personBit_26
  rw [X_told_eqQ s k h]
  simp (disch := omega) only [z_cl, z_lt0, z_nle, if_false, or_self]
  unfold v_bit vX
  by_cases hc : s.2.1 27 k = -1
  · simp [hc]
  · simp [hc]
theorem X_whole_stQ (s : ax_S) (n k : Nat) (hk : k < 12) (x y w h a : Int32) : XFi_wholeIn_26_l6 (n + 1) x y w h a (nI k) s = XFi_wholeIn_26_l6 n x y w h (a ||| g_W (vX s.2.1 27) x y w h k) (nI (k + 1)) s := by
  rw [XFi_wholeIn_26_l6, X_pbit_eqQ s k hk]
  simp (disch := omega) only [q_12, z_1, z_cl, z_lt0, z_le, z_nle, if_false, or_self]
  unfold g_W v_wh v_bit vX
  by_cases hc : s.2.1 27 k = -1 <;> simp only [hc, if_true, if_false, or_0]
  all_goals repeat' split
  all_goals simp_all [or_0]
theorem X_whole_eqQ (s : ax_S) (x y w h : Int32) : XFi_wholeIn_26 x y w h s = some (z_or (g_W (vX s.2.1 27) x y w h) 12) := by
  unfold XFi_wholeIn_26
  obtain ⟨b, h1, h2⟩ := z_for (fun n k a => XFi_wholeIn_26_l6 n x y w h a (nI k) s) 12 (fun k a => a = z_or (g_W (vX s.2.1 27) x y w h) k) (fun b => b = z_or (g_W (vX s.2.1 27) x y w h) 12) (fun n a ha => ⟨a, by rw [XFi_wholeIn_26_l6]; exact if_pos (by decide), ha⟩) (fun n k a hk ha => Or.inr ⟨_, X_whole_stQ s n k hk x y w h a, by rw [ha]; rfl⟩) 70000 0 0 (by omega) rfl (by omega)
  have h1 : XFi_wholeIn_26_l6 70000 x y w h 0 0 s = some b := h1
  rw [h1, h2]
theorem XSt_painfulAbove_25_st (s : ax_S) (n k : Nat) (hk : k < 16) (x : Int32) (a : Int32) : XSt_painfulAbove_25_l4 (n + 1) x a (nI k) s = XSt_painfulAbove_25_l4 n x (a ||| (g_A (s.2.1 32) x) k) (nI (k + 1)) s := by
  rw [XSt_painfulAbove_25_l4]
  simp (disch := omega) only [q_12, q_16, q_60, z_0add, nI_add, z_1, z_cl, z_lt0, z_le, z_nle, if_false, or_self, z_10, z_00, if_true]
  unfold g_A
  by_cases hc : s.2.1 32 k ≤ x <;> simp [hc]
theorem XSt_painfulAbove_25_eq (s : ax_S) (x : Int32) : XSt_painfulAbove_25 x s = some (z_or (g_A (s.2.1 32) x) 16) := by
  unfold XSt_painfulAbove_25
  obtain ⟨b, h1, h2⟩ := z_for (fun n k a => XSt_painfulAbove_25_l4 n x a (nI k) s) 16 (fun k a => a = z_or (g_A (s.2.1 32) x) k) (fun b => b = z_or (g_A (s.2.1 32) x) 16) (fun n a ha => ⟨a, by rw [XSt_painfulAbove_25_l4]; exact if_pos (by decide), ha⟩) (fun n k a hk ha => Or.inr ⟨_, XSt_painfulAbove_25_st s n k hk x a, by rw [ha]; rfl⟩) 70000 0 0 (by omega) rfl (by omega)
  have h1 : XSt_painfulAbove_25_l4 70000 x 0 0 s = some b := h1
  rw [h1, h2]
theorem XFi_howManyOf_26_st (s : ax_S) (n k : Nat) (hk : k < 12) (x : Int32) (a : Int32) : XFi_howManyOf_26_l4 (n + 1) x a (nI k) s = XFi_howManyOf_26_l4 n x (a + (g_N (s.2.1 27) x) k) (nI (k + 1)) s := by
  rw [XFi_howManyOf_26_l4]
  simp (disch := omega) only [q_12, q_16, q_60, z_0add, nI_add, z_1, z_cl, z_lt0, z_le, z_nle, if_false, or_self, z_10, z_00, if_true]
  unfold g_N
  by_cases hc : s.2.1 27 k = x <;> simp [hc]
theorem XFi_howManyOf_26_eq (s : ax_S) (x : Int32) : XFi_howManyOf_26 x s = some (z_sum (g_N (s.2.1 27) x) 12) := by
  unfold XFi_howManyOf_26
  obtain ⟨b, h1, h2⟩ := z_for (fun n k a => XFi_howManyOf_26_l4 n x a (nI k) s) 12 (fun k a => a = z_sum (g_N (s.2.1 27) x) k) (fun b => b = z_sum (g_N (s.2.1 27) x) 12) (fun n a ha => ⟨a, by rw [XFi_howManyOf_26_l4]; exact if_pos (by decide), ha⟩) (fun n k a hk ha => Or.inr ⟨_, XFi_howManyOf_26_st s n k hk x a, by rw [ha]; rfl⟩) 70000 0 0 (by omega) rfl (by omega)
  have h1 : XFi_howManyOf_26_l4 70000 x 0 0 s = some b := h1
  rw [h1, h2]
theorem X_row_eqQ {s : ax_S} {F : z_V} (ha : v_at s.2.1 27 F) (hv : v_val F) {i y : Nat} (hi : i < 12) (hy : y < 12) : XFi_cellsInRow_26 (nI i) (nI y) s = some (nI (v_cm F i y)) := by
  unfold XFi_cellsInRow_26 v_cm
  rw [X_told_eqQ s i hi]
  simp (disch := omega) only [z_cl, z_lt0, z_nle, if_false, or_self]
  have e0 : s.2.1 27 i = F 0 i := ha 0 i (by omega) hi
  have e1 : s.2.1 28 i = F 1 i := ha 1 i (by omega) hi
  have e2 : s.2.1 29 i = F 2 i := ha 2 i (by omega) hi
  have e3 : s.2.1 30 i = F 3 i := ha 3 i (by omega) hi
  have e4 : s.2.1 31 i = F 4 i := ha 4 i (by omega) hi
  rw [e0, e1, e2, e3, e4]
  rcases hv i hi with h1 | ⟨g0, g1, g2, g3, g4, b0, b1, b2, b3, b4⟩
  · simp [h1]
    rfl
  · by_cases h0 : F 0 i = -1
    · simp [h0]
      rfl
    · simp only [h0, if_false, z_10]
      rw [g1, g2, g3, g4, nI_add, x_shlm (by omega) b3]
      simp (disch := omega) only [z_lt]
      by_cases c1 : y < v_n F 2 i
      · rw [if_pos c1, if_neg (by omega)]; rfl
      · rw [if_neg c1]
        by_cases c2 : y < v_n F 2 i + v_n F 4 i
        · rw [if_pos c2, if_pos (by omega)]
        · rw [if_neg c2, if_neg (by omega)]; rfl
theorem X_lay_inQ {s : ax_S} {F : z_V} (ha : v_at s.2.1 27 F) (hv : v_val F) {i : Nat} (hi : i < 12) (x2 : Int32) : ∃ s', XCu_layOut_26_l36 70000 x2 (nI i) 0 s = some s' ∧ (∀ y, y < 12 → s'.2.1 56 y = s.2.1 56 y ||| nI (v_cm F i y)) ∧ (∀ c, c ≠ 56 → s'.2.1 c = s.2.1 c) := by
  obtain ⟨b, h1, h2⟩ := z_for (fun n k (a : ax_S) => XCu_layOut_26_l36 n x2 (nI i) (nI k) a) 12 (fun k a => (∀ y, y < k → a.2.1 56 y = s.2.1 56 y ||| nI (v_cm F i y)) ∧ (∀ y, k ≤ y → a.2.1 56 y = s.2.1 56 y) ∧ (∀ c, c ≠ 56 → a.2.1 c = s.2.1 c)) (fun b => (∀ y, y < 12 → b.2.1 56 y = s.2.1 56 y ||| nI (v_cm F i y)) ∧ (∀ c, c ≠ 56 → b.2.1 c = s.2.1 c)) (fun n a ha => ⟨a, by
      show XCu_layOut_26_l36 (n + 1) x2 (nI i) (nI 12) a = some a
      rw [XCu_layOut_26_l36]
      exact if_pos (by decide), ha.1, ha.2.2⟩) (fun n k a hk h => Or.inr ⟨ax_sI a 56 k (a.2.1 56 k ||| nI (v_cm F i k)), by
      show XCu_layOut_26_l36 (n + 1) x2 (nI i) (nI k) a = XCu_layOut_26_l36 n x2 (nI i) (nI (k + 1)) _
      rw [XCu_layOut_26_l36, X_row_eqQ (v_at_fr ha fun c _ _ => h.2.2 c (by omega)) hv hi hk]
      simp (disch := omega) only [q_12, z_1, z_cl, z_lt0, z_le, z_nle, if_false, or_self], by
      refine ⟨fun y hy => ?_, fun y hy => ?_, fun c hc => ?_⟩
      · rw [r_Ie]
        by_cases hjk : y = k
        · subst hjk; rw [r_u, h.2.1 _ (Nat.le_refl _)]
        · rw [r_un hjk]; exact h.1 y (by omega)
      · rw [r_Ie, r_un (by omega)]; exact h.2.1 y (by omega)
      · rw [r_I hc]; exact h.2.2 c hc⟩) 70000 0 s (by omega) ⟨fun j hj => absurd hj (Nat.not_lt_zero _), fun _ _ => rfl, fun _ _ => rfl⟩ (by omega)
  exact ⟨b, h1, h2⟩
theorem X_pbit2Q {s : ax_S} {F : z_V} (ha : v_at s.2.1 27 F) (hv : v_val F) {i : Nat} (hi : i < 12) : XFi_personBit_26 (nI i) s = some (if F 0 i = -1 then 0 else nI (2 ^ v_n F 0 i)) := by
  rw [X_pbit_eqQ s i hi]
  unfold v_bit vX
  rw [ha 0 i (by omega) hi]
  rcases hv i hi with h1 | h1
  · simp [h1]
  · split
    · rfl
    · rw [h1.1, x_shl _ (by omega)]
theorem X_layQ {s : ax_S} {F : z_V} (ha : v_at s.2.1 27 F) (hv : v_val F) {P k0 : Nat} (hP : P < 65536) (hk : k0 ≤ 12) (h0 : ∀ y, y < 12 → s.2.1 56 y = 0) : ∃ s', XCu_layOut_26_l15 70000 (nI P) (nI k0) s = some s' ∧ (∀ y, y < 12 → ∃ m, m < 65536 ∧ s'.2.1 56 y = nI m ∧ ∀ x, m.testBit x = true ↔ v_oc F P k0 x y) ∧ (∀ c, c ≠ 56 → s'.2.1 c = s.2.1 c) := by
  obtain ⟨b, h1, h2⟩ := z_for (fun n k (a : ax_S) => XCu_layOut_26_l15 n (nI P) (nI k) a) 12 (fun k a => k0 ≤ k ∧ (∀ y, y < 12 → ∃ m, m < 65536 ∧ a.2.1 56 y = nI m ∧ ∀ x, m.testBit x = true ↔ ∃ i, k0 ≤ i ∧ i < k ∧ P.testBit (v_n F 0 i) = true ∧ v_cell F i x y) ∧ (∀ c, c ≠ 56 → a.2.1 c = s.2.1 c)) (fun b => (∀ y, y < 12 → ∃ m, m < 65536 ∧ b.2.1 56 y = nI m ∧ ∀ x, m.testBit x = true ↔ v_oc F P k0 x y) ∧ (∀ c, c ≠ 56 → b.2.1 c = s.2.1 c)) (fun n a ha => ⟨a, by
      show XCu_layOut_26_l15 (n + 1) (nI P) (nI 12) a = some a
      rw [XCu_layOut_26_l15]
      exact if_pos (by decide), ha.2⟩) (fun n k a hk12 h => Or.inr (by
      show ∃ a', XCu_layOut_26_l15 (n + 1) (nI P) (nI k) a = XCu_layOut_26_l15 n (nI P) (nI (k + 1)) a' ∧ _
      have hat : v_at a.2.1 27 F := v_at_fr ha fun c _ _ => h.2.2 c (by omega)
      obtain ⟨b', g1, g2, g3⟩ := X_lay_inQ hat hv hk12 (nI P)
      rw [XCu_layOut_26_l15, X_pbit2Q hat hv hk12]
      simp (disch := omega) only [q_12, z_1, z_le, z_nle, if_false]
      by_cases hF : F 0 k = -1
      · refine ⟨a, by simp [hF], by omega, fun y hy => ?_, h.2.2⟩
        obtain ⟨m, m1, m2, m3⟩ := h.2.1 y hy
        refine ⟨m, m1, m2, fun x => (m3 x).trans ⟨fun ⟨i, i0, i1, i2, i3⟩ => ⟨i, i0, by omega, i2, i3⟩, fun ⟨i, i0, i1, i2, i3⟩ => ⟨i, i0, ?_, i2, i3⟩⟩⟩
        rcases Nat.lt_or_eq_of_le (Nat.lt_succ_iff.mp i1) with q | rfl
        · exact q
        · exact absurd hF i3.1
      · rw [if_neg hF]
        simp only [X_has2 hP]
        by_cases hb : P.testBit (v_n F 0 k) = false
        · refine ⟨a, by rw [if_pos hb], by omega, fun y hy => ?_, h.2.2⟩
          obtain ⟨m, m1, m2, m3⟩ := h.2.1 y hy
          refine ⟨m, m1, m2, fun x => (m3 x).trans ⟨fun ⟨i, i0, i1, i2, i3⟩ => ⟨i, i0, by omega, i2, i3⟩, fun ⟨i, i0, i1, i2, i3⟩ => ⟨i, i0, ?_, i2, i3⟩⟩⟩
          rcases Nat.lt_or_eq_of_le (Nat.lt_succ_iff.mp i1) with q | rfl
          · exact q
          · rw [hb] at i2; cases i2
        · have g1' : XCu_layOut_26_l36 70000 (nI P) (nI k) 0 a = some b' := g1
          refine ⟨b', by rw [if_neg hb, g1'], by omega, fun y hy => ?_, fun c hc => by rw [g3 c hc]; exact h.2.2 c hc⟩
          obtain ⟨m, m1, m2, m3⟩ := h.2.1 y hy
          refine ⟨m ||| v_cm F k y, x_orlt m1 (v_cm_lt hv hk12 y), by rw [g2 y hy, m2, x_or], fun x => ?_⟩
          rw [Nat.testBit_or, Bool.or_eq_true, m3, v_cm_tb]
          constructor
          · rintro (⟨i, i0, i1, i2, i3⟩ | e)
            · exact ⟨i, i0, by omega, i2, i3⟩
            · exact ⟨k, h.1, by omega, by simpa using hb, e⟩
          · rintro ⟨i, i0, i1, i2, i3⟩
            rcases Nat.lt_or_eq_of_le (Nat.lt_succ_iff.mp i1) with q | rfl
            · exact Or.inl ⟨i, i0, q, i2, i3⟩
            · exact Or.inr i3)) 70000 k0 s hk ⟨Nat.le_refl _, fun y hy => ⟨0, by omega, h0 y hy, fun x => ⟨fun e => by simp at e, fun ⟨i, i0, i1, _⟩ => by omega⟩⟩, fun _ _ => rfl⟩ (by omega)
  exact ⟨b, h1, h2⟩
theorem X_layOut_eqQ {s : ax_S} {F : z_V} (ha : v_at s.2.1 27 F) (hv : v_val F) {P k0 : Nat} (hP : P < 65536) (hk : k0 ≤ 12) : ∃ s', XCu_layOut_26 (nI P) (nI k0) s = some s' ∧ (∀ y, y < 12 → ∃ m, m < 65536 ∧ s'.2.1 56 y = nI m ∧ ∀ x, m.testBit x = true ↔ v_oc F P k0 x y) ∧ (∀ c, c ≠ 56 → s'.2.1 c = s.2.1 c) := by
  unfold XCu_layOut_26
  obtain ⟨s1, h1, h2, h3⟩ := J_fill_56_eq s
  rw [h1]
  have e : (if (0 : Int32) < nI k0 then nI k0 else 0) = nI k0 := by
    by_cases h : k0 = 0
    · subst h; rfl
    · rw [if_pos (by rw [z_0lt (by omega)]; omega)]
  rw [e]
  obtain ⟨s', g1, g2, g3⟩ := X_layQ (v_at_fr ha fun c _ _ => h3 c (by omega)) hv hP hk h2
  simp only [g1]
  exact ⟨s', rfl, g2, fun c hc => by rw [g3 c hc, h3 c hc]⟩
/-! offering runs -/
theorem X_heightsQ {s : ax_S} {oc : Nat → Nat → Prop} {y x0 y0 w0 h0 : Nat} (hy : y < 12) (hrow : ∀ y, y < 12 → ∃ m, m < 65536 ∧ s.2.1 56 y = nI m ∧ ∀ x, m.testBit x = true ↔ oc x y) (hs : ct_st s x0 y0 w0 h0) (hok : ct_ok oc x0 y0 w0 h0) :
    ∃ s' x1 y1 w1 h1, XCu_cutWithout_26_l29 70000 (nI y) 0 (nI y) s = some s' ∧ ct_st s' x1 y1 w1 h1 ∧ ct_ok oc x1 y1 w1 h1 ∧ ct_ky x0 y0 w0 h0 ≤ ct_ky x1 y1 w1 h1 ∧ (∀ a w h, ct_vr a y w h → ct_cl oc a y w h → ct_ky a y w h ≤ ct_ky x1 y1 w1 h1) ∧ (∀ c, c ≠ 55 → s'.2.1 c = s.2.1 c) := by
  obtain ⟨b, g1, g2⟩ := z_for (fun n k (a : Nat × ax_S) => XCu_cutWithout_26_l29 n (nI y) (nI a.1) (nI k) a.2) 12
    (fun k a => y ≤ k ∧ a.1 < 65536 ∧ (∀ x, x < 16 → (a.1.testBit x = true ↔ ∃ y', y ≤ y' ∧ y' < k ∧ oc x y')) ∧ ∃ x1 y1 w1 h1, ct_st a.2 x1 y1 w1 h1 ∧ ct_ok oc x1 y1 w1 h1 ∧ ct_ky x0 y0 w0 h0 ≤ ct_ky x1 y1 w1 h1 ∧ (∀ p w h, y + h ≤ k → ct_vr p y w h → ct_cl oc p y w h → ct_ky p y w h ≤ ct_ky x1 y1 w1 h1) ∧ (∀ c, c ≠ 55 → a.2.2.1 c = s.2.1 c))
    (fun b => ∃ x1 y1 w1 h1, ct_st b x1 y1 w1 h1 ∧ ct_ok oc x1 y1 w1 h1 ∧ ct_ky x0 y0 w0 h0 ≤ ct_ky x1 y1 w1 h1 ∧ (∀ a w h, ct_vr a y w h → ct_cl oc a y w h → ct_ky a y w h ≤ ct_ky x1 y1 w1 h1) ∧ (∀ c, c ≠ 55 → b.2.1 c = s.2.1 c))
    (fun n a ha => ⟨a.2, by
      show XCu_cutWithout_26_l29 (n + 1) (nI y) (nI a.1) (nI 12) a.2 = some a.2
      rw [XCu_cutWithout_26_l29]
      exact if_pos (by decide), by
      obtain ⟨-, -, -, x1, y1, w1, h1, j1, j2, j3, j4, j5⟩ := ha
      exact ⟨x1, y1, w1, h1, j1, j2, j3, fun p w h v c => j4 p w h v.2.2.2 v c, j5⟩⟩)
    (fun n k a hk ha => Or.inr (by
      obtain ⟨i1, i2, i3, x1, y1, w1, h1, j1, j2, j3, j4, j5⟩ := ha
      obtain ⟨U, sa⟩ := a
      dsimp only at i2 i3 j1 j4 j5
      show ∃ a' : Nat × ax_S, XCu_cutWithout_26_l29 (n + 1) (nI y) (nI U) (nI k) sa = XCu_cutWithout_26_l29 n (nI y) (nI a'.1) (nI (k + 1)) a'.2 ∧ _
      obtain ⟨m, m1, m2, m3⟩ := hrow k hk
      have hU : ∀ x, x < 16 → ((U ||| m).testBit x = true ↔ ∃ y', y ≤ y' ∧ y' < k + 1 ∧ oc x y') := fun x hx => by
        rw [Nat.testBit_or, Bool.or_eq_true, i3 x hx, m3]
        constructor
        · rintro (⟨y', q1, q2, q3⟩ | q)
          · exact ⟨y', q1, by omega, q3⟩
          · exact ⟨k, i1, by omega, q⟩
        · rintro ⟨y', q1, q2, q3⟩
          rcases Nat.lt_or_eq_of_le (Nat.lt_succ_iff.mp q2) with q | rfl
          · exact Or.inl ⟨y', q1, q, q3⟩
          · exact Or.inr q3
      have e0 : sa.2.1 56 k = nI m := by rw [j5 56 (by omega)]; exact m2
      obtain ⟨s2, x2, y2, w2, h2, k1, k2, k3, k4, k5, k6⟩ := X_offer_eq (s := sa) (oc := oc) (U := U ||| m) (y := y) (h := k - y + 1) (x_orlt i2 m1) (by omega) (by omega) (by rw [show y + (k - y + 1) = k + 1 by omega]; exact hU) j1 j2
      refine ⟨(U ||| m, s2), ?_, by omega, x_orlt i2 m1, hU, x2, y2, w2, h2, k2, k3, Nat.le_trans j3 k4, fun p w h q v c => ?_, fun c hc => by rw [k6 c hc]; exact j5 c hc⟩
      · rw [XCu_cutWithout_26_l29]
        simp (disch := omega) only [q_12, z_le, z_nle, z_cl, z_lt0, z_1, z_sub, if_false, or_self]
        rw [e0, x_or, k1]
      · by_cases e : y + h ≤ k
        · exact Nat.le_trans (j4 p w h e v c) k4
        · obtain rfl : h = k - y + 1 := by omega
          exact k5 p w v c))
    70000 y (0, s) (by omega) ⟨Nat.le_refl _, by show 0 < 65536; omega, fun x hx => ⟨fun e => by simp at e, fun ⟨y', q1, q2, _⟩ => by omega⟩, x0, y0, w0, h0, hs, hok, Nat.le_refl _, fun p w h q v => by have := v.2.1; omega, fun _ _ => rfl⟩ (by omega)
  obtain ⟨x1, y1, w1, h1, g3⟩ := g2
  exact ⟨b, x1, y1, w1, h1, g1, g3⟩
theorem X_cut_eqQ {s : ax_S} {F : z_V} (ha : v_at s.2.1 27 F) (hv : v_val F) {P : Nat} (hP : P < 65536) :
    ∃ s' x y w h, XCu_cutWithout_26 (nI P) s = some s' ∧ ct_st s' x y w h ∧ ct_best (v_oc F P 0) x y w h ∧ (∀ c, c ≠ 55 → c ≠ 56 → s'.2.1 c = s.2.1 c) := by
  unfold XCu_cutWithout_26
  obtain ⟨s1, g1, g2, g3⟩ := X_layOut_eqQ ha hv hP (Nat.zero_le 12)
  have g1 : XCu_layOut_26 (nI P) 0 s = some s1 := g1
  simp only [g1]
  obtain ⟨p1, p2, p3, p4, p5⟩ := ct_put 0 0 0 0 s1
  obtain ⟨b, e1, e2⟩ := z_for (fun n k (a : ax_S) => XCu_cutWithout_26_l17 n (nI k) a) 12
    (fun k a => ∃ x1 y1 w1 h1, ct_st a x1 y1 w1 h1 ∧ ct_ok (v_oc F P 0) x1 y1 w1 h1 ∧ (∀ p y w h, y < k → ct_vr p y w h → ct_cl (v_oc F P 0) p y w h → ct_ky p y w h ≤ ct_ky x1 y1 w1 h1) ∧ (∀ c, c ≠ 55 → a.2.1 c = s1.2.1 c))
    (fun a => ∃ x1 y1 w1 h1, ct_st a x1 y1 w1 h1 ∧ ct_best (v_oc F P 0) x1 y1 w1 h1 ∧ (∀ c, c ≠ 55 → a.2.1 c = s1.2.1 c))
    (fun n a ha => ⟨a, by
      show XCu_cutWithout_26_l17 (n + 1) (nI 12) a = some a
      rw [XCu_cutWithout_26_l17]
      exact if_pos (by decide), by
      obtain ⟨x1, y1, w1, h1, j1, j2, j3, j4⟩ := ha
      exact ⟨x1, y1, w1, h1, j1, ⟨j2, fun p y w h v c => j3 p y w h (by have := v.2.2.2; have := v.2.1; omega) v c⟩, j4⟩⟩)
    (fun n k a hk ha => Or.inr (by
      obtain ⟨x1, y1, w1, h1, j1, j2, j3, j4⟩ := ha
      obtain ⟨s2, x2, y2, w2, h2, k1, k2, k3, k4, k5, k6⟩ := X_heightsQ (s := a) (oc := v_oc F P 0) (y := k) hk (fun y hy => by rw [j4 56 (by omega)]; exact g2 y hy) j1 j2
      refine ⟨s2, ?_, x2, y2, w2, h2, k2, k3, fun p y w h q v c => ?_, fun c hc => by rw [k6 c hc]; exact j4 c hc⟩
      · show XCu_cutWithout_26_l17 (n + 1) (nI k) a = XCu_cutWithout_26_l17 n (nI (k + 1)) s2
        rw [XCu_cutWithout_26_l17]
        simp (disch := omega) only [q_12, z_le, z_nle, z_1, if_false]
        rw [k1]
      · by_cases e : y < k
        · exact Nat.le_trans (j3 p y w h e v c) k4
        · obtain rfl : y = k := by omega
          exact k5 p w h v c))
    70000 0 (XCu_put 0 0 0 0 s1) (by omega) ⟨0, 0, 0, 0, ⟨p1, p2, p3, p4⟩, Or.inl ⟨rfl, rfl, rfl, rfl⟩, fun p y w h q => absurd q (Nat.not_lt_zero _), p5⟩ (by omega)
  have e1 : XCu_cutWithout_26_l17 70000 0 (XCu_put 0 0 0 0 s1) = some b := e1
  obtain ⟨x1, y1, w1, h1, e3, e4, e5⟩ := e2
  simp only [e1]
  exact ⟨b, x1, y1, w1, h1, rfl, e3, e4, fun c hc hc2 => by rw [e5 c hc, g3 c hc2]⟩
