/-! the smallest rectangle: the class whole, the reference, the calls -/
theorem X_sxs {s : ax_S} {F : z_V} (ha : v_at s.2.1 5 F) (hv : v_val F) {many P L T y x0 y0 w0 h0 : Nat} (hm : many ≤ 16) (hP : P < 65536) (hL : L < 65536) (hT : T < 65536) (hy : y < 12) (hs : ct_st s x0 y0 w0 h0) (hok : s_ok (s_c F many P) x0 y0 w0 h0) :
    ∃ s' x1 y1 w1 h1, XCu_cutSmallest_4_l58 70000 (nI many) (nI P) (nI L) (nI T) (nI y) 0 s = some s' ∧ ct_st s' x1 y1 w1 h1 ∧ s_ok (s_c F many P) x1 y1 w1 h1 ∧ s_ky x0 y0 w0 h0 ≤ s_ky x1 y1 w1 h1 ∧ (∀ x w h, L.testBit x = true → T.testBit y = true → ct_vr x y w h → s_c F many P x y w h → s_ky x y w h ≤ s_ky x1 y1 w1 h1) ∧ (∀ c, c ≠ 55 → s'.2.1 c = s.2.1 c) := by
  obtain ⟨b, g1, g2⟩ := z_for (fun n k (a : ax_S) => XCu_cutSmallest_4_l58 n (nI many) (nI P) (nI L) (nI T) (nI y) (nI k) a) 16
    (fun k a => ∃ x1 y1 w1 h1, ct_st a x1 y1 w1 h1 ∧ s_ok (s_c F many P) x1 y1 w1 h1 ∧ s_ky x0 y0 w0 h0 ≤ s_ky x1 y1 w1 h1 ∧ (∀ x w h, x < k → L.testBit x = true → T.testBit y = true → ct_vr x y w h → s_c F many P x y w h → s_ky x y w h ≤ s_ky x1 y1 w1 h1) ∧ (∀ c, c ≠ 55 → a.2.1 c = s.2.1 c))
    (fun b => ∃ x1 y1 w1 h1, ct_st b x1 y1 w1 h1 ∧ s_ok (s_c F many P) x1 y1 w1 h1 ∧ s_ky x0 y0 w0 h0 ≤ s_ky x1 y1 w1 h1 ∧ (∀ x w h, L.testBit x = true → T.testBit y = true → ct_vr x y w h → s_c F many P x y w h → s_ky x y w h ≤ s_ky x1 y1 w1 h1) ∧ (∀ c, c ≠ 55 → b.2.1 c = s.2.1 c))
    (fun n a ha => ⟨a, by
      show XCu_cutSmallest_4_l58 (n + 1) (nI many) (nI P) (nI L) (nI T) (nI y) (nI 16) a = some a
      rw [XCu_cutSmallest_4_l58]
      exact if_pos (by decide), by
      obtain ⟨x1, y1, w1, h1, j1, j2, j3, j4, j5⟩ := ha
      exact ⟨x1, y1, w1, h1, j1, j2, j3, fun x w h q1 q2 v c => j4 x w h (by have := v.2.2.1; have := v.1; omega) q1 q2 v c, j5⟩⟩)
    (fun n k a hk hI => Or.inr (by
      obtain ⟨x1, y1, w1, h1, j1, j2, j3, j4, j5⟩ := hI
      show ∃ a', XCu_cutSmallest_4_l58 (n + 1) (nI many) (nI P) (nI L) (nI T) (nI y) (nI k) a = XCu_cutSmallest_4_l58 n (nI many) (nI P) (nI L) (nI T) (nI y) (nI (k + 1)) a' ∧ _
      rw [XCu_cutSmallest_4_l58]
      simp (disch := omega) only [q_16, z_le, z_nle, z_1, if_false]
      simp only [x_has (show T < 2147483648 by omega) (show y < 32 by omega), x_has (show L < 2147483648 by omega) (show k < 32 by omega)]
      by_cases c1 : T.testBit y = true
      · rw [if_pos c1]
        by_cases c2 : L.testBit k = true
        · rw [if_pos c2]
          obtain ⟨s2, x2, y2, w2, h2, k1, k2, k3, k4, k5, k6⟩ := X_shh (s := a) (v_at_fr ha fun c _ _ => j5 c (by omega)) hv (many := many) (P := P) (x := k) (y := y) hm hP hk hy j1 j2
          refine ⟨s2, by rw [k1], x2, y2, w2, h2, k2, k3, Nat.le_trans j3 k4, fun x w h q q1 q2 v c => ?_, fun c hc => by rw [k6 c hc]; exact j5 c hc⟩
          by_cases e : x = k
          · subst e; exact k5 w h v c
          · exact Nat.le_trans (j4 x w h (by omega) q1 q2 v c) k4
        · rw [if_neg c2]
          refine ⟨a, rfl, x1, y1, w1, h1, j1, j2, j3, fun x w h q q1 q2 v c => ?_, j5⟩
          by_cases e : x = k
          · subst e; exact absurd q1 c2
          · exact j4 x w h (by omega) q1 q2 v c
      · rw [if_neg c1]
        exact ⟨a, rfl, x1, y1, w1, h1, j1, j2, j3, fun x w h q q1 q2 v c => absurd q2 c1, j5⟩))
    70000 0 s (by omega) ⟨x0, y0, w0, h0, hs, hok, Nat.le_refl _, fun x w h q => absurd q (Nat.not_lt_zero _), fun _ _ => rfl⟩ (by omega)
  obtain ⟨x1, y1, w1, h1, g3⟩ := g2
  exact ⟨b, x1, y1, w1, h1, g1, g3⟩
theorem X_small_eq {s : ax_S} {F : z_V} (ha : v_at s.2.1 5 F) (hv : v_val F) {many P : Nat} (hm : many ≤ 16) (hP : P < 65536) (hne : 1 ≤ many ∨ P ≠ 0) :
    ∃ s' x y w h, XCu_cutSmallest_4 (nI many) (nI P) s = some s' ∧ ct_st s' x y w h ∧ s_best (s_c F many P) x y w h ∧ (∀ c, c ≠ 55 → s'.2.1 c = s.2.1 c) := by
  unfold XCu_cutSmallest_4
  obtain ⟨p1, p2, p3, p4, p5⟩ := ct_put 0 0 0 0 s
  have hat : v_at (XCu_put 0 0 0 0 s).2.1 5 F := v_at_fr ha fun c _ _ => p5 c (by omega)
  have hpl : z_nor (s_lb F 0) 12 < 65536 := z_nor_lt 12 fun i hi => s_lb_lt hv hi (by omega)
  have hL : z_nor (s_lb F 1) 12 < 65536 := z_nor_lt 12 fun i hi => s_lb_lt hv hi (by omega)
  have hT : z_nor (s_lb F 2) 12 < 65536 := z_nor_lt 12 fun i hi => s_lb_lt hv hi (by omega)
  have hpp : x_pop (z_nor (s_lb F 0) 12) ≤ 16 := fb_ct_le _ _
  have hsub := x_sublt hP (z_nor (s_lb F 0) 12)
  rw [X_pers_n hat hv, X_lefts_eq hat hv, X_tops_eq hat hv]
  simp only []
  rw [x_bc hpl, x_not hP]
  simp only [z_lt (show x_pop (z_nor (s_lb F 0) 12) < 2147483648 by omega) (show many < 2147483648 by omega), z_eq0 (show x_sub P (z_nor (s_lb F 0) 12) < 2147483648 by omega)]
  have hle : ∀ x y w h k, (s_wm F x y w h).testBit k = true → (z_nor (s_lb F 0) 12).testBit k = true := fun x y w h k => by
    rw [s_wm_tb, s_lb_tb]
    rintro ⟨i, hi, q, e⟩
    exact ⟨i, hi, q.1, e⟩
  by_cases c1 : x_pop (z_nor (s_lb F 0) 12) < many
  · rw [if_pos c1]
    refine ⟨_, 0, 0, 0, 0, rfl, ⟨p1, p2, p3, p4⟩, ⟨Or.inl ⟨rfl, rfl, rfl, rfl⟩, fun x y w h v c => ?_⟩, p5⟩
    have := fb_ct_sub (n := 16) (p := fun k => (s_wm F x y w h).testBit k) (q := fun k => (z_nor (s_lb F 0) 12).testBit k) fun k _ => hle x y w h k
    have h2 := c.1
    unfold x_pop at h2 c1
    omega
  · rw [if_neg c1]
    by_cases c2 : x_sub P (z_nor (s_lb F 0) 12) = 0
    · rw [if_pos c2]
      obtain ⟨b, g1, g2⟩ := z_for (fun n k (a : ax_S) => XCu_cutSmallest_4_l48 n (nI many) (nI P) (nI (z_nor (s_lb F 1) 12)) (nI (z_nor (s_lb F 2) 12)) (nI k) a) 12
        (fun k a => ∃ x1 y1 w1 h1, ct_st a x1 y1 w1 h1 ∧ s_ok (s_c F many P) x1 y1 w1 h1 ∧ (∀ x y w h, y < k → (z_nor (s_lb F 1) 12).testBit x = true → (z_nor (s_lb F 2) 12).testBit y = true → ct_vr x y w h → s_c F many P x y w h → s_ky x y w h ≤ s_ky x1 y1 w1 h1) ∧ (∀ c, c ≠ 55 → a.2.1 c = s.2.1 c))
        (fun b => ∃ x1 y1 w1 h1, ct_st b x1 y1 w1 h1 ∧ s_best (s_c F many P) x1 y1 w1 h1 ∧ (∀ c, c ≠ 55 → b.2.1 c = s.2.1 c))
        (fun n a ha => ⟨a, by
          show XCu_cutSmallest_4_l48 (n + 1) (nI many) (nI P) _ _ (nI 12) a = some a
          rw [XCu_cutSmallest_4_l48]
          exact if_pos (by decide), by
          obtain ⟨x1, y1, w1, h1, j1, j2, j4, j5⟩ := ha
          refine ⟨x1, y1, w1, h1, j1, ⟨j2, fun x y w h v c => ?_⟩, j5⟩
          obtain ⟨i, j, x', y', w', h', hi, hj, ti, tj, ex, ey, v', c', q⟩ := s_dom hv hP hne v c
          exact Nat.le_trans q (j4 x' y' w' h' (by have := v'.2.2.2; have := v'.2.1; omega) ((s_lb_tb F 1 x').mpr ⟨i, hi, ti, ex.symm⟩) ((s_lb_tb F 2 y').mpr ⟨j, hj, tj, ey.symm⟩) v' c')⟩)
        (fun n k a hk hI => Or.inr (by
          obtain ⟨x1, y1, w1, h1, j1, j2, j4, j5⟩ := hI
          obtain ⟨s2, x2, y2, w2, h2, k1, k2, k3, k4, k5, k6⟩ := X_sxs (s := a) (v_at_fr ha fun c _ _ => j5 c (by omega)) hv hm hP hL hT hk j1 j2
          refine ⟨s2, ?_, x2, y2, w2, h2, k2, k3, fun x y w h q q1 q2 v c => ?_, fun c hc => by rw [k6 c hc]; exact j5 c hc⟩
          · show XCu_cutSmallest_4_l48 (n + 1) (nI many) (nI P) _ _ (nI k) a = XCu_cutSmallest_4_l48 n (nI many) (nI P) _ _ (nI (k + 1)) s2
            rw [XCu_cutSmallest_4_l48]
            simp (disch := omega) only [q_12, z_le, z_nle, z_1, if_false]
            rw [k1]
          · by_cases e : y = k
            · subst e; exact k5 x w h q1 q2 v c
            · exact Nat.le_trans (j4 x y w h (by omega) q1 q2 v c) k4))
        70000 0 (XCu_put 0 0 0 0 s) (by omega) ⟨0, 0, 0, 0, ⟨p1, p2, p3, p4⟩, Or.inl ⟨rfl, rfl, rfl, rfl⟩, fun x y w h q => absurd q (Nat.not_lt_zero _), p5⟩ (by omega)
      have g1 : XCu_cutSmallest_4_l48 70000 (nI many) (nI P) (nI (z_nor (s_lb F 1) 12)) (nI (z_nor (s_lb F 2) 12)) 0 (XCu_put 0 0 0 0 s) = some b := g1
      obtain ⟨x1, y1, w1, h1, g3⟩ := g2
      simp only [g1]
      exact ⟨b, x1, y1, w1, h1, rfl, g3⟩
    · rw [if_neg c2]
      refine ⟨_, 0, 0, 0, 0, rfl, ⟨p1, p2, p3, p4⟩, ⟨Or.inl ⟨rfl, rfl, rfl, rfl⟩, fun x y w h v c => ?_⟩, p5⟩
      exact absurd (s_subm hP (hle x y w h) c.2) c2
/-! the reference -/
def s_mi (C : Nat → Nat → Nat → Nat → Prop) (s0 : ax_S) (t l w : Nat) (s : ax_S) : Prop := ∃ x y w' h', ct_sM s x y w' h' ∧ s_ok C x y w' h' ∧ ((w' = 0 ∧ h' = 0) ∨ ct_pr t l w x y w') ∧ (∀ x2 y2 w2 h2, ct_vr x2 y2 w2 h2 → C x2 y2 w2 h2 → ct_pr t l w x2 y2 w2 → s_ky x2 y2 w2 h2 ≤ s_ky x y w' h') ∧ ct_fM s0 s
theorem s_accM {F : z_V} (hv : v_val F) {many P : Nat} (hm : many ≤ 16) (hP : P < 65536) (x y w h : Nat) {β : Type} (A B : β) : (s_c F many P x y w h ∧ (if nI (x_pop (s_wm F x y w h)) < nI many then B else if (nI P &&& (nI (s_wm F x y w h) ^^^ (-1))) = 0 then A else B) = A) ∨ (¬ s_c F many P x y w h ∧ (if nI (x_pop (s_wm F x y w h)) < nI many then B else if (nI P &&& (nI (s_wm F x y w h) ^^^ (-1))) = 0 then A else B) = B) := by
  have := s_acc hv hm hP x y w h (0, fun _ _ => 0, fun _ _ => 0) A B
  rw [x_bc (s_wm_lt hv x y w h)] at this
  exact this
theorem M_shigh {s0 s : ax_S} {F : z_V} (ha : v_aM s0.2.1 F) (hv : v_val F) {many P t l w : Nat} (hm : many ≤ 16) (hP : P < 65536) (hw : 1 ≤ w) (hl : l + w ≤ 16) (ht : t < 12) (hI : s_mi (s_c F many P) s0 t l w s) : ∃ s', (M_cutsSmallest_l41 70000 (nI many) (nI P) (nI t) (nI l) (nI w) 1 s = some (.inl s') ∨ M_cutsSmallest_l41 70000 (nI many) (nI P) (nI t) (nI l) (nI w) 1 s = some (.inr s')) ∧ s_mi (s_c F many P) s0 t l (w - 1) s' := by
  obtain ⟨b, g1, g2⟩ := z_for (fun n k (a : ax_S) => M_cutsSmallest_l41 n (nI many) (nI P) (nI t) (nI l) (nI w) (nI (k + 1)) a) (12 - t)
    (fun k s => ∃ x y w' h', ct_sM s x y w' h' ∧ s_ok (s_c F many P) x y w' h' ∧ ((w' = 0 ∧ h' = 0) ∨ ct_pr t l w x y w' ∨ (y = t ∧ x = l ∧ w' = w ∧ h' ≤ k)) ∧ (∀ x2 y2 w2 h2, ct_vr x2 y2 w2 h2 → s_c F many P x2 y2 w2 h2 → ct_pr t l w x2 y2 w2 ∨ (y2 = t ∧ x2 = l ∧ w2 = w ∧ h2 ≤ k) → s_ky x2 y2 w2 h2 ≤ s_ky x y w' h') ∧ ct_fM s0 s)
    (fun b => ∃ s', (b = .inl s' ∨ b = .inr s') ∧ s_mi (s_c F many P) s0 t l (w - 1) s')
    (fun n a hI => ⟨.inr a, by
      show M_cutsSmallest_l41 (n + 1) (nI many) (nI P) (nI t) (nI l) (nI w) (nI (12 - t + 1)) a = some (.inr a)
      rw [M_cutsSmallest_l41]
      exact if_pos (by rw [q_12, z_sub (by omega), z_lt (by omega) (by omega)]; omega), a, Or.inr rfl, by
      obtain ⟨x, y, w', h', i1, i2, i3, i4, i5⟩ := hI
      refine ⟨x, y, w', h', i1, i2, ?_, fun x2 y2 w2 h2 v c p => i4 x2 y2 w2 h2 v c ?_, i5⟩
      · unfold ct_pr at i3 ⊢; omega
      · unfold ct_pr at p ⊢; unfold ct_vr at v; omega⟩)
    (fun n k a hk hI => by
      obtain ⟨x, y, w', h', i1, i2, i3, i4, i5⟩ := hI
      obtain ⟨B1, B2, B3, B4, B5, B6⟩ := s_bnd i2
      show (∃ b, M_cutsSmallest_l41 (n + 1) (nI many) (nI P) (nI t) (nI l) (nI w) (nI (k + 1)) a = some b ∧ _) ∨ ∃ a', M_cutsSmallest_l41 (n + 1) (nI many) (nI P) (nI t) (nI l) (nI w) (nI (k + 1)) a = M_cutsSmallest_l41 n (nI many) (nI P) (nI t) (nI l) (nI w) (nI (k + 1 + 1)) a' ∧ _
      have hm2 : w * (k + 1) ≤ 192 := ct_mul (by omega) (by omega)
      have hp2 : 1 ≤ w * (k + 1) := ct_pos hw (by omega)
      have hv2 : ct_vr l t w (k + 1) := ⟨hw, by omega, hl, by omega⟩
      rw [M_cutsSmallest_l41, M_whole_n (v_aM_fr ha i5) hv (by omega) (by omega), i1.2.2.1, i1.2.2.2, pk_mul, pk_mul, z_1]
      simp only [M_bits_eq (s_wm_lt hv l t w (k + 1)), z_le0 (show w' < 2147483648 by omega), z_lt (show w * (k + 1) < 2147483648 by omega) (show w' * h' < 2147483648 by omega)]
      rw [if_neg (show ¬ ((12 : Int32) - nI t < nI (k + 1)) by rw [q_12, z_sub (by omega), z_lt (by omega) (by omega)]; omega)]
      obtain ⟨p1, p2⟩ := ct_lay l t w (k + 1) a
      obtain ⟨K1, -, -⟩ := s_kyp hv2
      have K2 : w' * h' ≠ 0 → s_ky x y w' h' = (193 - w' * h') * 3264 + (11 - y) * 272 + (15 - x) * 17 + w' := fun q => if_neg q
      have K3 : w' * h' = 0 → s_ky x y w' h' = 0 := fun q => if_pos q
      have ht11 : t ≤ 11 := by omega
      have hl15 : l ≤ 15 := by omega
      have hw16 : w ≤ 16 := by omega
      have hacc : s_ky x y w' h' ≤ s_ky l t w (k + 1) → ∃ a', (if nI (x_pop (s_wm F l t w (k + 1))) < nI many then M_cutsSmallest_l41 n (nI many) (nI P) (nI t) (nI l) (nI w) (nI (k + 1 + 1)) a else if (nI P &&& (nI (s_wm F l t w (k + 1)) ^^^ (-1))) = 0 then M_cutsSmallest_l41 n (nI many) (nI P) (nI t) (nI l) (nI w) (nI (k + 1 + 1)) (M_laysCut (nI l) (nI t) (nI w) (nI (k + 1)) a) else M_cutsSmallest_l41 n (nI many) (nI P) (nI t) (nI l) (nI w) (nI (k + 1 + 1)) a) = M_cutsSmallest_l41 n (nI many) (nI P) (nI t) (nI l) (nI w) (nI (k + 1 + 1)) a' ∧ ∃ x y w' h', ct_sM a' x y w' h' ∧ s_ok (s_c F many P) x y w' h' ∧ ((w' = 0 ∧ h' = 0) ∨ ct_pr t l w x y w' ∨ (y = t ∧ x = l ∧ w' = w ∧ h' ≤ k + 1)) ∧ (∀ x2 y2 w2 h2, ct_vr x2 y2 w2 h2 → s_c F many P x2 y2 w2 h2 → ct_pr t l w x2 y2 w2 ∨ (y2 = t ∧ x2 = l ∧ w2 = w ∧ h2 ≤ k + 1) → s_ky x2 y2 w2 h2 ≤ s_ky x y w' h') ∧ ct_fM s0 a' := fun hle => by
        rcases s_accM hv hm hP l t w (k + 1) (M_cutsSmallest_l41 n (nI many) (nI P) (nI t) (nI l) (nI w) (nI (k + 1 + 1)) (M_laysCut (nI l) (nI t) (nI w) (nI (k + 1)) a)) (M_cutsSmallest_l41 n (nI many) (nI P) (nI t) (nI l) (nI w) (nI (k + 1 + 1)) a) with ⟨c, e⟩ | ⟨c, e⟩
        · refine ⟨_, e, l, t, w, k + 1, p1, Or.inr ⟨hv2, c⟩, Or.inr (Or.inr ⟨rfl, rfl, rfl, Nat.le_refl _⟩), fun x2 y2 w2 h2 v2 c2 q => ?_, fun c j q => by rw [p2 c j q]; exact i5 c j q⟩
          by_cases e2 : y2 = t ∧ x2 = l ∧ w2 = w ∧ h2 = k + 1
          · obtain ⟨rfl, rfl, rfl, rfl⟩ := e2; exact Nat.le_refl _
          · exact Nat.le_trans (i4 x2 y2 w2 h2 v2 c2 (by unfold ct_pr at q ⊢; omega)) hle
        · refine ⟨_, e, x, y, w', h', i1, i2, by unfold ct_pr at i3 ⊢; omega, fun x2 y2 w2 h2 v2 c2 q => ?_, i5⟩
          by_cases e2 : y2 = t ∧ x2 = l ∧ w2 = w ∧ h2 = k + 1
          · obtain ⟨rfl, rfl, rfl, rfl⟩ := e2; exact absurd c2 c
          · exact i4 x2 y2 w2 h2 v2 c2 (by unfold ct_pr at q ⊢; omega)
      by_cases c0 : w' = 0
      · rw [if_pos c0]
        exact Or.inr (hacc (by rw [K3 (B6.mpr c0)]; exact Nat.zero_le _))
      · rw [if_neg c0]
        have K4 := K2 (fun q => c0 (B6.mp q))
        by_cases c1 : w * (k + 1) < w' * h'
        · rw [if_pos c1]
          exact Or.inr (hacc (by rw [K1, K4]; exact s_k1 c1 B5 ht11 hl15 hw16 B2 B1 B3))
        · rw [if_neg c1]
          clear hacc
          refine Or.inl ⟨_, rfl, a, Or.inl rfl, x, y, w', h', i1, i2, ?_, fun x2 y2 w2 h2 v2 c2 q => ?_, i5⟩
          · unfold ct_pr at i3 ⊢; omega
          · by_cases e2 : ct_pr t l w x2 y2 w2 ∨ (y2 = t ∧ x2 = l ∧ w2 = w ∧ h2 ≤ k)
            · exact i4 x2 y2 w2 h2 v2 c2 e2
            · have e3 : y2 = t ∧ x2 = l ∧ w2 = w ∧ k + 1 ≤ h2 := by unfold ct_pr at e2 q; omega
              obtain ⟨rfl, rfl, rfl, hk2⟩ := e3
              have hmul : w2 * (k + 1) ≤ w2 * h2 := Nat.mul_le_mul_left w2 hk2
              obtain ⟨K5, q1, q2⟩ := s_kyp v2
              rw [K5, K4]
              rcases i3 with q | q | ⟨q3, q4, q5, q6⟩
              · exact absurd q.1 c0
              · unfold ct_pr at q
                by_cases e5 : w2 * h2 = w' * h'
                · exact s_k3 e5 (by omega) (by omega) (by omega) B2 B1 B3 (by omega)
                · exact s_k1 (by omega) (by omega) B2 B1 B3 (by omega) (by omega) (by omega)
              · subst q5
                by_cases e5 : w' * h2 = w' * h'
                · exact s_k3 e5 (by omega) (by omega) (by omega) B2 B1 B3 (by omega)
                · exact s_k1 (by omega) (by omega) B2 B1 B3 (by omega) (by omega) (by omega))
    70000 0 s (by omega) (by
      obtain ⟨x, y, w', h', i1, i2, i3, i4, i5⟩ := hI
      exact ⟨x, y, w', h', i1, i2, by unfold ct_pr at i3 ⊢; omega, fun x2 y2 w2 h2 v c q => i4 x2 y2 w2 h2 v c (by unfold ct_vr at v; unfold ct_pr at q ⊢; omega), i5⟩) (by omega)
  have g1 : M_cutsSmallest_l41 70000 (nI many) (nI P) (nI t) (nI l) (nI w) 1 s = some b := g1
  obtain ⟨s', g3, g4⟩ := g2
  rcases g3 with rfl | rfl
  · exact ⟨s', Or.inl g1, g4⟩
  · exact ⟨s', Or.inr g1, g4⟩
theorem M_swides {s0 s : ax_S} {F : z_V} (ha : v_aM s0.2.1 F) (hv : v_val F) {many P t l : Nat} (hm : many ≤ 16) (hP : P < 65536) (hl : l < 16) (ht : t < 12) (hI : s_mi (s_c F many P) s0 t l (16 - l) s) : ∃ s', M_cutsSmallest_l33 70000 (nI many) (nI P) (nI t) (nI l) (nI (16 - l)) s = some s' ∧ s_mi (s_c F many P) s0 t l 0 s' := by
  obtain ⟨b, h1, h2⟩ := z_while (fun n (a : Nat × ax_S) => M_cutsSmallest_l33 n (nI many) (nI P) (nI t) (nI l) (nI a.1) a.2) (fun a => a.1 ≤ 16 - l ∧ s_mi (s_c F many P) s0 t l a.1 a.2) (fun a => a.1) (fun s' => s_mi (s_c F many P) s0 t l 0 s') (fun n a hI => by
      obtain ⟨w, s⟩ := a
      obtain ⟨hw, hI⟩ := hI
      dsimp only at hw hI
      show (∃ b, M_cutsSmallest_l33 (n + 1) (nI many) (nI P) (nI t) (nI l) (nI w) s = some b ∧ _) ∨ ∃ a' : Nat × ax_S, M_cutsSmallest_l33 (n + 1) (nI many) (nI P) (nI t) (nI l) (nI w) s = M_cutsSmallest_l33 n (nI many) (nI P) (nI t) (nI l) (nI a'.1) a'.2 ∧ _
      rw [M_cutsSmallest_l33]
      simp only [z_le0 (show w < 2147483648 by omega)]
      by_cases c1 : w = 0
      · subst c1
        exact Or.inl ⟨s, by simp, hI⟩
      · rw [if_neg c1]
        obtain ⟨s', g1, g2⟩ := M_shigh ha hv hm hP (by omega) (by omega) ht hI
        have em : nI w + Int32.ofInt (-1) = nI (w - 1) := z_m1 (by omega)
        refine Or.inr ⟨(w - 1, s'), ?_, ⟨by show w - 1 ≤ 16 - l; omega, g2⟩, by show w - 1 < w; omega⟩
        rcases g1 with g1 | g1
        · rw [g1]; simp only [em]
        · rw [g1]; simp only [em]) 70000 (16 - l, s) ⟨Nat.le_refl _, hI⟩ (by show 16 - l < 70000; omega)
  exact ⟨b, h1, h2⟩
theorem M_slefts {s0 s : ax_S} {F : z_V} (ha : v_aM s0.2.1 F) (hv : v_val F) {many P t : Nat} (hm : many ≤ 16) (hP : P < 65536) (ht : t < 12) (hI : s_mi (s_c F many P) s0 t 0 16 s) : ∃ s', M_cutsSmallest_l19 70000 (nI many) (nI P) (nI t) 0 s = some s' ∧ s_mi (s_c F many P) s0 (t + 1) 0 16 s' := by
  obtain ⟨b, h1, h2⟩ := z_for (fun n k (a : ax_S) => M_cutsSmallest_l19 n (nI many) (nI P) (nI t) (nI k) a) 16 (fun k a => s_mi (s_c F many P) s0 t k (16 - k) a) (fun a => s_mi (s_c F many P) s0 (t + 1) 0 16 a) (fun n a ha => ⟨a, by
      show M_cutsSmallest_l19 (n + 1) (nI many) (nI P) (nI t) (nI 16) a = some a
      rw [M_cutsSmallest_l19]
      exact if_pos (by decide), by
      obtain ⟨x, y, w', h', i1, i2, i3, i4, i5⟩ := ha
      obtain ⟨B1, B2, B3, B4, B5, B6⟩ := s_bnd i2
      refine ⟨x, y, w', h', i1, i2, ?_, fun x2 y2 w2 h2 v c p => i4 x2 y2 w2 h2 v c ?_, i5⟩
      · unfold ct_pr at i3 ⊢; omega
      · unfold ct_pr at p ⊢; unfold ct_vr at v; omega⟩) (fun n k a hk hI => Or.inr (by
      obtain ⟨s', g1, x, y, w', h', i1, i2, i3, i4, i5⟩ := M_swides ha hv hm hP hk ht hI
      obtain ⟨B1, B2, B3, B4, B5, B6⟩ := s_bnd i2
      refine ⟨s', ?_, x, y, w', h', i1, i2, ?_, fun x2 y2 w2 h2 v c p => i4 x2 y2 w2 h2 v c ?_, i5⟩
      · show M_cutsSmallest_l19 (n + 1) (nI many) (nI P) (nI t) (nI k) a = M_cutsSmallest_l19 n (nI many) (nI P) (nI t) (nI (k + 1)) s'
        rw [M_cutsSmallest_l19]
        simp (disch := omega) only [q_16, z_le, z_nle, z_sub, z_1, if_false]
        rw [g1]
      · unfold ct_pr at i3 ⊢; omega
      · unfold ct_pr at p ⊢; unfold ct_vr at v; omega)) 70000 0 s (by omega) hI (by omega)
  exact ⟨b, h1, h2⟩
theorem M_small_eq {s : ax_S} {F : z_V} (ha : v_aM s.2.1 F) (hv : v_val F) {many P : Nat} (hm : many ≤ 16) (hP : P < 65536) :
    ∃ s' x y w h, M_cutsSmallest (nI many) (nI P) s = some s' ∧ ct_sM s' x y w h ∧ s_best (s_c F many P) x y w h ∧ ct_fM s s' := by
  unfold M_cutsSmallest
  obtain ⟨p1, p2⟩ := ct_lay 0 0 0 0 s
  obtain ⟨b, h1, h2⟩ := z_for (fun n k (a : ax_S) => M_cutsSmallest_l10 n (nI many) (nI P) (nI k) a) 12 (fun k a => s_mi (s_c F many P) s k 0 16 a) (fun a => ∃ x y w h, ct_sM a x y w h ∧ s_best (s_c F many P) x y w h ∧ ct_fM s a) (fun n a ha => ⟨a, by
      show M_cutsSmallest_l10 (n + 1) (nI many) (nI P) (nI 12) a = some a
      rw [M_cutsSmallest_l10]
      exact if_pos (by decide), by
      obtain ⟨x, y, w', h', i1, i2, i3, i4, i5⟩ := ha
      exact ⟨x, y, w', h', i1, ⟨i2, fun x2 y2 w2 h2 v c => i4 x2 y2 w2 h2 v c (Or.inl (by unfold ct_vr at v; omega))⟩, i5⟩⟩) (fun n k a hk hI => Or.inr (by
      obtain ⟨s', g1, g2⟩ := M_slefts ha hv hm hP hk hI
      refine ⟨s', ?_, g2⟩
      show M_cutsSmallest_l10 (n + 1) (nI many) (nI P) (nI k) a = M_cutsSmallest_l10 n (nI many) (nI P) (nI (k + 1)) s'
      rw [M_cutsSmallest_l10]
      simp (disch := omega) only [q_12, z_le, z_nle, z_1, if_false]
      rw [g1])) 70000 0 (M_laysCut (nI 0) (nI 0) (nI 0) (nI 0) s) (by omega) ⟨0, 0, 0, 0, p1, Or.inl ⟨rfl, rfl, rfl, rfl⟩, Or.inl ⟨rfl, rfl⟩, fun x2 y2 w2 h2 v c p => by unfold ct_pr at p; unfold ct_vr at v; omega, p2⟩ (by omega)
  have h1 : M_cutsSmallest_l10 70000 (nI many) (nI P) 0 (M_laysCut 0 0 0 0 s) = some b := h1
  obtain ⟨x, y, w, h, h3⟩ := h2
  simp only [h1]
  exact ⟨b, x, y, w, h, rfl, h3⟩
theorem s_cR {F G : z_V} (h : v_R F G) : s_c F = s_c G := by
  have e : ∀ x y w h2, s_wm F x y w h2 = s_wm G x y w h2 := fun x y w h2 => by
    refine x_ext (s_wm_lt (v_R_valX h) x y w h2) (s_wm_lt (v_R_val h) x y w h2) fun k _ => ?_
    have : ((s_wm F x y w h2).testBit k = true) ↔ ((s_wm G x y w h2).testBit k = true) := by
      rw [s_wm_tb, s_wm_tb]
      have hin : ∀ i, i < 12 → (s_in F i x y w h2 ↔ s_in G i x y w h2) := fun i hi => by
        unfold s_in
        rw [(h i hi).1]
        by_cases ht : G 0 i = -1
        · simp [ht]
        · have e := v_R_told h hi ht
          rw [v_n_eq (e 1 (by omega)), v_n_eq (e 2 (by omega)), v_n_eq (e 3 (by omega)), v_n_eq (e 4 (by omega))]
      exact ⟨fun ⟨i, hi, q, e⟩ => ⟨i, hi, (hin i hi).mp q, by rw [← v_n_eq (h i hi).1]; exact e⟩, fun ⟨i, hi, q, e⟩ => ⟨i, hi, (hin i hi).mpr q, by rw [v_n_eq (h i hi).1]; exact e⟩⟩
    revert this
    cases (s_wm F x y w h2).testBit k <;> cases (s_wm G x y w h2).testBit k <;> simp
  funext many P x y w h2
  unfold s_c
  rw [e]
theorem sm_ans {s t : ax_S} {C : Nat → Nat → Nat → Nat → Prop} {x y w h : Nat} (hX : ct_st s x y w h) (hM : ct_sM t x y w h) (hok : s_ok C x y w h) (k : Int32) : XCu_part k s = M_cutIs k t := by
  refine cut_ans (oc := fun _ _ => False) hX hM ?_ k
  rcases hok with q | q
  · exact Or.inl q
  · exact Or.inr ⟨q.1, fun _ _ _ _ _ _ => id⟩
theorem y_sm {s : ax_S} (h : y_inv s.2.1) {many P : Nat} (hm : many ≤ 16) (hP : P < 65536) (hne : 1 ≤ many ∨ P ≠ 0) : ∃ s1 s2, XCu_cutSmallest_4 (nI many) (nI P) s = some s1 ∧ M_cutsSmallest (nI many) (nI P) s1 = some s2 ∧ (∀ k, XCu_part k s1 = M_cutIs k s2) ∧ y_inv s2.2.1 := by
  have hR : v_R (vX s.2.1 5) (vM s.2.1 64) := h.1.1
  obtain ⟨s1, x, y, w, h1, e1, e2, e3, e4⟩ := X_small_eq (v_at_vX s.2.1 5) (v_R_valX hR) hm hP hne
  have hM : v_aM s1.2.1 (vM s.2.1 64) := fun k i hk hi => by rw [e4 64 (by omega)]; rfl
  obtain ⟨s2, x', y', w', h', g1, g2, g3, g4⟩ := M_small_eq hM (v_R_val hR) hm hP
  rw [s_cR hR] at e3
  obtain ⟨rfl, rfl, rfl, rfl⟩ := s_uniq e3 g3
  exact ⟨s1, s2, e1, g1, fun k => sm_ans e2 g2 g3.1 k, g_inv h fun c j k => by rw [g4 c j (by omega), e4 c (by omega)]⟩
theorem y_smallest (k w : Int32) (s : ax_S) (h : y_inv s.2.1) : y_sim (X_smallest k w) (M_smallest k w) s := by
  rcases z_inX (x := k) (s := s) 1 16 (by omega) (by omega) with h1 | ⟨h1, n, hn1, hn2, rfl⟩
  · have h1 : M_in k 1 16 s = 0 := h1
    exact y_same h (-1) (by unfold X_smallest; rw [X_within_eq, if_pos h1]) (by unfold M_smallest; rw [if_pos h1])
  · have h2 : ¬ M_in (nI n) 1 16 s = 0 := by
      show ¬ M_in (nI n) (nI 1) (nI 16) s = 0
      rw [h1]; decide
    by_cases h3 : M_in w 0 3 s = 0
    · exact y_same h (-1) (by unfold X_smallest; rw [X_within_eq, if_neg h2, X_within_eq, if_pos h3]) (by unfold M_smallest; rw [if_neg h2, if_pos h3])
    · obtain ⟨s1, s2, e1, e2, e3, e4⟩ := y_sm h hn2 (show 0 < 65536 by omega) (Or.inl hn1)
      have e1 : XCu_cutSmallest_4 (nI n) 0 s = some s1 := e1
      have e2 : M_cutsSmallest (nI n) 0 s1 = some s2 := e2
      refine ⟨XCu_part w s1, s1, s2, ?_, ?_, e4⟩
      · unfold X_smallest
        rw [X_within_eq, if_neg h2, X_within_eq, if_neg h3, e1]
      · unfold M_smallest
        rw [if_neg (show ¬ M_in (nI n) 1 16 s1 = 0 from h2), if_neg (show ¬ M_in w 0 3 s1 = 0 from h3), e2, e3]
theorem y_smallestOf (k w : Int32) (s : ax_S) (h : y_inv s.2.1) : y_sim (X_smallestOf k w) (M_smallestOf k w) s := by
  rcases z_inX (x := k) (s := s) 1 65535 (by omega) (by omega) with h1 | ⟨h1, n, hn1, hn2, rfl⟩
  · have h1 : M_in k 1 65535 s = 0 := h1
    refine y_same h (-1) ?_ (by unfold M_smallestOf; rw [if_pos h1])
    unfold X_smallestOf X_arePersons
    rw [X_within_eq]
    rcases z_16 (x := k) s with h2 | ⟨h2, n, hn, rfl⟩
    · rw [if_pos h2]
    · rw [if_neg (by rw [h2]; decide)]
      by_cases e : n = 0
      · subst e; rfl
      · exfalso
        unfold M_in at h1
        revert h1
        simp (disch := omega) only [q_1, q_65535, z_lt, z_nlt, if_false]
        decide
  · have h2 : ¬ M_in (nI n) 1 65535 s = 0 := by
      show ¬ M_in (nI n) (nI 1) (nI 65535) s = 0
      rw [h1]; decide
    have h4 : ¬ X_arePersons (nI n) s = 0 := by
      unfold X_arePersons X_isWithin
      rw [if_neg (nI_pos (by omega)), if_neg (by rw [q_65535, z_lt (by omega) (by omega)]; omega)]
      decide
    have h5 : ¬ nI n = 0 := by rw [z_eq0 (by omega)]; omega
    by_cases h3 : M_in w 0 3 s = 0
    · exact y_same h (-1) (by unfold X_smallestOf; rw [if_neg h4, if_neg h5, X_within_eq, if_pos h3]) (by unfold M_smallestOf; rw [if_neg h2, if_pos h3])
    · obtain ⟨s1, s2, e1, e2, e3, e4⟩ := y_sm h (many := 0) (by omega) (show n < 65536 by omega) (Or.inr (by omega))
      have e1 : XCu_cutSmallest_4 0 (nI n) s = some s1 := e1
      have e2 : M_cutsSmallest 0 (nI n) s1 = some s2 := e2
      refine ⟨XCu_part w s1, s1, s2, ?_, ?_, e4⟩
      · unfold X_smallestOf
        rw [if_neg h4, if_neg h5, X_within_eq, if_neg h3, e1]
      · unfold M_smallestOf
        rw [if_neg (show ¬ M_in (nI n) 1 65535 s1 = 0 from h2), if_neg (show ¬ M_in w 0 3 s1 = 0 from h3), e2, e3]
