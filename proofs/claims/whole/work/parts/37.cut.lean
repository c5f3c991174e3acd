/-! the class's largest cut -/
theorem J_fill_56_eq (s : ax_S) : ∃ s', J_fill_56 0 s = some s' ∧ (∀ j, j < 12 → s'.2.1 56 j = 0) ∧ (∀ c, c ≠ 56 → s'.2.1 c = s.2.1 c) := by
  unfold J_fill_56
  obtain ⟨b, h1, h2⟩ := z_for (fun n k (a : ax_S) => J_fill_56_l5 n 0 (nI k) 12 a) 12 (fun k a => (∀ j, j < k → a.2.1 56 j = 0) ∧ (∀ c, c ≠ 56 → a.2.1 c = s.2.1 c)) (fun b => (∀ j, j < 12 → b.2.1 56 j = 0) ∧ (∀ c, c ≠ 56 → b.2.1 c = s.2.1 c)) (fun n a ha => ⟨a, by
      show J_fill_56_l5 (n + 1) 0 (nI 12) 12 a = some a
      rw [J_fill_56_l5]
      exact if_pos (by decide), ha⟩) (fun n k a hk ha => Or.inr ⟨ax_sI a 56 k 0, by
      show J_fill_56_l5 (n + 1) 0 (nI k) 12 a = J_fill_56_l5 n 0 (nI (k + 1)) 12 _
      rw [J_fill_56_l5]
      simp (disch := omega) only [q_12, z_1, z_cl, z_lt0, z_le, z_nle, if_false, or_self], by
      refine ⟨fun j hj => ?_, fun c hc => ?_⟩
      · rw [r_Ie]
        by_cases hjk : j = k
        · subst hjk; rw [r_u]
        · rw [r_un hjk]; exact ha.1 j (by omega)
      · rw [r_I hc]; exact ha.2 c hc⟩) 70000 0 s (by omega) ⟨fun j hj => absurd hj (Nat.not_lt_zero _), fun _ _ => rfl⟩ (by omega)
  have h1 : J_fill_56_l5 70000 0 0 12 s = some b := h1
  rw [h1]
  exact ⟨b, rfl, h2⟩
theorem v_at_fr {s t : ax_S} {b : Nat} {F : z_V} (ha : v_at s.2.1 b F) (e : ∀ c, b ≤ c → c < b + 5 → t.2.1 c = s.2.1 c) : v_at t.2.1 b F := fun k i hk hi => by
  rw [e (b + k) (by omega) (by omega)]
  exact ha k i hk hi
theorem X_lay_in {s : ax_S} {F : z_V} (ha : v_at s.2.1 5 F) (hv : v_val F) {i : Nat} (hi : i < 12) (x2 : Int32) : ∃ s', XCu_layOut_4_l36 70000 x2 (nI i) 0 s = some s' ∧ (∀ y, y < 12 → s'.2.1 56 y = s.2.1 56 y ||| nI (v_cm F i y)) ∧ (∀ c, c ≠ 56 → s'.2.1 c = s.2.1 c) := by
  obtain ⟨b, h1, h2⟩ := z_for (fun n k (a : ax_S) => XCu_layOut_4_l36 n x2 (nI i) (nI k) a) 12 (fun k a => (∀ y, y < k → a.2.1 56 y = s.2.1 56 y ||| nI (v_cm F i y)) ∧ (∀ y, k ≤ y → a.2.1 56 y = s.2.1 56 y) ∧ (∀ c, c ≠ 56 → a.2.1 c = s.2.1 c)) (fun b => (∀ y, y < 12 → b.2.1 56 y = s.2.1 56 y ||| nI (v_cm F i y)) ∧ (∀ c, c ≠ 56 → b.2.1 c = s.2.1 c)) (fun n a ha => ⟨a, by
      show XCu_layOut_4_l36 (n + 1) x2 (nI i) (nI 12) a = some a
      rw [XCu_layOut_4_l36]
      exact if_pos (by decide), ha.1, ha.2.2⟩) (fun n k a hk h => Or.inr ⟨ax_sI a 56 k (a.2.1 56 k ||| nI (v_cm F i k)), by
      show XCu_layOut_4_l36 (n + 1) x2 (nI i) (nI k) a = XCu_layOut_4_l36 n x2 (nI i) (nI (k + 1)) _
      rw [XCu_layOut_4_l36, X_row_eq (v_at_fr ha fun c _ _ => h.2.2 c (by omega)) hv hi hk]
      simp (disch := omega) only [q_12, z_1, z_cl, z_lt0, z_le, z_nle, if_false, or_self], by
      refine ⟨fun y hy => ?_, fun y hy => ?_, fun c hc => ?_⟩
      · rw [r_Ie]
        by_cases hjk : y = k
        · subst hjk; rw [r_u, h.2.1 _ (Nat.le_refl _)]
        · rw [r_un hjk]; exact h.1 y (by omega)
      · rw [r_Ie, r_un (by omega)]; exact h.2.1 y (by omega)
      · rw [r_I hc]; exact h.2.2 c hc⟩) 70000 0 s (by omega) ⟨fun j hj => absurd hj (Nat.not_lt_zero _), fun _ _ => rfl, fun _ _ => rfl⟩ (by omega)
  exact ⟨b, h1, h2⟩
theorem X_pbit2 {s : ax_S} {F : z_V} (ha : v_at s.2.1 5 F) (hv : v_val F) {i : Nat} (hi : i < 12) : XFi_personBit_4 (nI i) s = some (if F 0 i = -1 then 0 else nI (2 ^ v_n F 0 i)) := by
  rw [X_pbit_eq s i hi]
  unfold v_bit vX
  rw [ha 0 i (by omega) hi]
  rcases hv i hi with h1 | h1
  · simp [h1]
  · split
    · rfl
    · rw [h1.1, x_shl _ (by omega)]
theorem X_has2 {P p : Nat} (hP : P < 65536) : (nI (2 ^ p) &&& nI P = 0) = (P.testBit p = false) := by
  have h1 : 2 ^ p &&& P ≤ P := Nat.and_le_right
  rw [nx_and, z_eq0 (by omega), Nat.and_comm, fb_bit_nat]
theorem X_lay {s : ax_S} {F : z_V} (ha : v_at s.2.1 5 F) (hv : v_val F) {P k0 : Nat} (hP : P < 65536) (hk : k0 ≤ 12) (h0 : ∀ y, y < 12 → s.2.1 56 y = 0) : ∃ s', XCu_layOut_4_l15 70000 (nI P) (nI k0) s = some s' ∧ (∀ y, y < 12 → ∃ m, m < 65536 ∧ s'.2.1 56 y = nI m ∧ ∀ x, m.testBit x = true ↔ v_oc F P k0 x y) ∧ (∀ c, c ≠ 56 → s'.2.1 c = s.2.1 c) := by
  obtain ⟨b, h1, h2⟩ := z_for (fun n k (a : ax_S) => XCu_layOut_4_l15 n (nI P) (nI k) a) 12 (fun k a => k0 ≤ k ∧ (∀ y, y < 12 → ∃ m, m < 65536 ∧ a.2.1 56 y = nI m ∧ ∀ x, m.testBit x = true ↔ ∃ i, k0 ≤ i ∧ i < k ∧ P.testBit (v_n F 0 i) = true ∧ v_cell F i x y) ∧ (∀ c, c ≠ 56 → a.2.1 c = s.2.1 c)) (fun b => (∀ y, y < 12 → ∃ m, m < 65536 ∧ b.2.1 56 y = nI m ∧ ∀ x, m.testBit x = true ↔ v_oc F P k0 x y) ∧ (∀ c, c ≠ 56 → b.2.1 c = s.2.1 c)) (fun n a ha => ⟨a, by
      show XCu_layOut_4_l15 (n + 1) (nI P) (nI 12) a = some a
      rw [XCu_layOut_4_l15]
      exact if_pos (by decide), ha.2⟩) (fun n k a hk12 h => Or.inr (by
      show ∃ a', XCu_layOut_4_l15 (n + 1) (nI P) (nI k) a = XCu_layOut_4_l15 n (nI P) (nI (k + 1)) a' ∧ _
      have hat : v_at a.2.1 5 F := v_at_fr ha fun c _ _ => h.2.2 c (by omega)
      obtain ⟨b', g1, g2, g3⟩ := X_lay_in hat hv hk12 (nI P)
      rw [XCu_layOut_4_l15, X_pbit2 hat hv hk12]
      simp (disch := omega) only [q_12, z_1, z_le, z_nle, if_false]
      by_cases hF : F 0 k = -1
      · refine ⟨a, by simp [hF], by omega, fun y hy => ?_, h.2.2⟩
        obtain ⟨m, m1, m2, m3⟩ := h.2.1 y hy
        refine ⟨m, m1, m2, fun x => (m3 x).trans ⟨fun ⟨i, i0, i1, i2, i3⟩ => ⟨i, i0, by omega, i2, i3⟩, fun ⟨i, i0, i1, i2, i3⟩ => ⟨i, i0, ?_, i2, i3⟩⟩⟩
        rcases Nat.lt_or_eq_of_le (Nat.lt_succ_iff.mp i1) with q | rfl
        · exact q
        · exact absurd hF i3.1
      · rw [if_neg hF]
        simp only [X_has2 hP]
        by_cases hb : P.testBit (v_n F 0 k) = false
        · refine ⟨a, by rw [if_pos hb], by omega, fun y hy => ?_, h.2.2⟩
          obtain ⟨m, m1, m2, m3⟩ := h.2.1 y hy
          refine ⟨m, m1, m2, fun x => (m3 x).trans ⟨fun ⟨i, i0, i1, i2, i3⟩ => ⟨i, i0, by omega, i2, i3⟩, fun ⟨i, i0, i1, i2, i3⟩ => ⟨i, i0, ?_, i2, i3⟩⟩⟩
          rcases Nat.lt_or_eq_of_le (Nat.lt_succ_iff.mp i1) with q | rfl
          · exact q
          · rw [hb] at i2; cases i2
        · have g1' : XCu_layOut_4_l36 70000 (nI P) (nI k) 0 a = some b' := g1
          refine ⟨b', by rw [if_neg hb, g1'], by omega, fun y hy => ?_, fun c hc => by rw [g3 c hc]; exact h.2.2 c hc⟩
          obtain ⟨m, m1, m2, m3⟩ := h.2.1 y hy
          refine ⟨m ||| v_cm F k y, x_orlt m1 (v_cm_lt hv hk12 y), by rw [g2 y hy, m2, x_or], fun x => ?_⟩
          rw [Nat.testBit_or, Bool.or_eq_true, m3, v_cm_tb]
          constructor
          · rintro (⟨i, i0, i1, i2, i3⟩ | e)
            · exact ⟨i, i0, by omega, i2, i3⟩
            · exact ⟨k, h.1, by omega, by simpa using hb, e⟩
          · rintro ⟨i, i0, i1, i2, i3⟩
            rcases Nat.lt_or_eq_of_le (Nat.lt_succ_iff.mp i1) with q | rfl
            · exact Or.inl ⟨i, i0, q, i2, i3⟩
            · exact Or.inr i3)) 70000 k0 s hk ⟨Nat.le_refl _, fun y hy => ⟨0, by omega, h0 y hy, fun x => ⟨fun e => by simp at e, fun ⟨i, i0, i1, _⟩ => by omega⟩⟩, fun _ _ => rfl⟩ (by omega)
  exact ⟨b, h1, h2⟩
theorem X_layOut_eq {s : ax_S} {F : z_V} (ha : v_at s.2.1 5 F) (hv : v_val F) {P k0 : Nat} (hP : P < 65536) (hk : k0 ≤ 12) : ∃ s', XCu_layOut_4 (nI P) (nI k0) s = some s' ∧ (∀ y, y < 12 → ∃ m, m < 65536 ∧ s'.2.1 56 y = nI m ∧ ∀ x, m.testBit x = true ↔ v_oc F P k0 x y) ∧ (∀ c, c ≠ 56 → s'.2.1 c = s.2.1 c) := by
  unfold XCu_layOut_4
  obtain ⟨s1, h1, h2, h3⟩ := J_fill_56_eq s
  rw [h1]
  have e : (if (0 : Int32) < nI k0 then nI k0 else 0) = nI k0 := by
    by_cases h : k0 = 0
    · subst h; rfl
    · rw [if_pos (by rw [z_0lt (by omega)]; omega)]
  rw [e]
  obtain ⟨s', g1, g2, g3⟩ := X_lay (v_at_fr ha fun c _ _ => h3 c (by omega)) hv hP hk h2
  simp only [g1]
  exact ⟨s', rfl, g2, fun c hc => by rw [g3 c hc, h3 c hc]⟩
/-! offering runs -/
def ct_st (s : ax_S) (x y w h : Nat) : Prop := s.2.1 55 1 = nI x ∧ s.2.1 55 2 = nI y ∧ s.2.1 55 3 = nI w ∧ s.2.1 55 4 = nI h
theorem ct_put (x y w h : Int32) (s : ax_S) : (XCu_put x y w h s).2.1 55 1 = x ∧ (XCu_put x y w h s).2.1 55 2 = y ∧ (XCu_put x y w h s).2.1 55 3 = w ∧ (XCu_put x y w h s).2.1 55 4 = h ∧ (∀ c, c ≠ 55 → (XCu_put x y w h s).2.1 c = s.2.1 c) := by
  unfold XCu_put
  refine ⟨?_, ?_, ?_, ?_, fun c hc => ?_⟩
  all_goals simp (disch := omega) only [r_Ie, r_u, r_un, r_I]
theorem zs_pos {a b : Nat} (ha : a < 1073741824) (hb : b < 1073741824) : (0 < nI a - nI b) = (b < a) := by
  rw [Int32.lt_iff_toInt_lt, pk_sub_toInt (by omega) (by omega)]
  have : (0 : Int32).toInt = 0 := rfl
  rw [this]
  exact propext (by omega)
theorem zs_eq {a b : Nat} (ha : a < 1073741824) (hb : b < 1073741824) : (nI a - nI b = 0) = (a = b) := by
  rw [← Int32.toInt_inj, pk_sub_toInt (by omega) (by omega)]
  have : (0 : Int32).toInt = 0 := rfl
  rw [this]
  exact propext (by omega)
theorem ct_ahead {s : ax_S} {x y w h : Nat} (hs : ct_st s x y w h) (hx : x < 1000) (hy : y < 1000) (hw : w < 1000) {a b c : Nat} (ha : a < 1000) (hb : b < 1000) (hc : c < 1000) : (XCu_isAhead (nI a) (nI b) (nI c) s = 0) = ¬ (b < y ∨ (b = y ∧ (a < x ∨ (a = x ∧ w < c)))) := by
  unfold XCu_isAhead
  rw [hs.1, hs.2.1, hs.2.2.1]
  simp (disch := omega) only [z_eq, z_le]
  by_cases h1 : b = y <;> by_cases h2 : a = x <;> by_cases h3 : c ≤ w <;> by_cases h4 : x ≤ a <;> by_cases h5 : y ≤ b <;> simp [h1, h2, h3, h4, h5] <;> omega
/-- one offer: the candidate is put if it is better -/
theorem ct_offer {s : ax_S} {x y w h st k yy hh : Nat} (hs : ct_st s x y w h) (hx : x ≤ 15) (hy : y ≤ 11) (hw : w ≤ 16) (hm : w * h ≤ 192) (hst : st ≤ k) (hk : k ≤ 16) (hyy : yy ≤ 11) (hh1 : 1 ≤ hh) (hhh : hh ≤ 12) {β : Type} (K : ax_S → β) :
    ∃ x' y' w' h' s', ct_st s' x' y' w' h' ∧ (∀ c, c ≠ 55 → s'.2.1 c = s.2.1 c) ∧ ct_ky x y w h ≤ ct_ky x' y' w' h' ∧ (1 ≤ k - st → 1 ≤ hh → ct_ky st yy (k - st) hh ≤ ct_ky x' y' w' h') ∧ ((x' = x ∧ y' = y ∧ w' = w ∧ h' = h) ∨ (1 ≤ k - st ∧ 1 ≤ hh ∧ x' = st ∧ y' = yy ∧ w' = k - st ∧ h' = hh)) ∧
    (if 0 < (((nI k - nI st) * nI hh) - (XCu_cells s)) then K (XCu_put (nI st) (nI yy) (nI k - nI st) (nI hh) s) else
      if (((nI k - nI st) * nI hh) - (XCu_cells s)) = 0 then (
        if nI k ≤ nI st then K s else
        if (XCu_isAhead (nI st) (nI yy) (nI k - nI st) s) = 0 then K s else
        K (XCu_put (nI st) (nI yy) (nI k - nI st) (nI hh) s)) else
      K s) = K s' := by
  have hm2 : (k - st) * hh ≤ 192 := ct_mul (by omega) hhh
  have hc : XCu_cells s = nI (w * h) := by unfold XCu_cells; rw [hs.2.2.1, hs.2.2.2, pk_mul]
  rw [hc, z_sub hst, pk_mul]
  simp only [zs_pos (show (k - st) * hh < 1073741824 by omega) (show w * h < 1073741824 by omega), zs_eq (show (k - st) * hh < 1073741824 by omega) (show w * h < 1073741824 by omega), z_le (show k < 2147483648 by omega) (show st < 2147483648 by omega), ct_ahead hs (show x < 1000 by omega) (show y < 1000 by omega) (show w < 1000 by omega) (show st < 1000 by omega) (show yy < 1000 by omega) (show k - st < 1000 by omega)]
  obtain ⟨p1, p2, p3, p4, p5⟩ := ct_put (nI st) (nI yy) (nI (k - st)) (nI hh) s
  by_cases h1 : w * h < (k - st) * hh
  · rw [if_pos h1]
    have g1 : 1 ≤ k - st := by
      rcases Nat.eq_zero_or_pos (k - st) with e | e
      · rw [e, Nat.zero_mul] at h1; omega
      · exact e
    have g2 : 1 ≤ hh := by
      rcases Nat.eq_zero_or_pos hh with e | e
      · rw [e, Nat.mul_zero] at h1; omega
      · exact e
    refine ⟨st, yy, k - st, hh, _, ⟨p1, p2, p3, p4⟩, p5, ?_, fun _ _ => Nat.le_refl _, Or.inr ⟨g1, g2, rfl, rfl, rfl, rfl⟩, rfl⟩
    unfold ct_ky
    omega
  · rw [if_neg h1]
    by_cases h2 : (k - st) * hh = w * h
    · rw [if_pos h2]
      by_cases h3 : k ≤ st
      · rw [if_pos h3]
        exact ⟨x, y, w, h, s, hs, fun _ _ => rfl, Nat.le_refl _, fun g => by omega, Or.inl ⟨rfl, rfl, rfl, rfl⟩, rfl⟩
      · rw [if_neg h3]
        by_cases h4 : yy < y ∨ (yy = y ∧ (st < x ∨ (st = x ∧ w < k - st)))
        · rw [if_neg (not_not_intro h4)]
          refine ⟨st, yy, k - st, hh, _, ⟨p1, p2, p3, p4⟩, p5, ?_, fun _ _ => Nat.le_refl _, Or.inr ⟨by omega, hh1, rfl, rfl, rfl, rfl⟩, rfl⟩
          unfold ct_ky
          omega
        · rw [if_pos h4]
          refine ⟨x, y, w, h, s, hs, fun _ _ => rfl, Nat.le_refl _, fun _ _ => ?_, Or.inl ⟨rfl, rfl, rfl, rfl⟩, rfl⟩
          unfold ct_ky
          omega
    · rw [if_neg h2]
      refine ⟨x, y, w, h, s, hs, fun _ _ => rfl, Nat.le_refl _, fun _ _ => ?_, Or.inl ⟨rfl, rfl, rfl, rfl⟩, rfl⟩
      unfold ct_ky
      omega
