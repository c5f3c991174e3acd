/-! the class's largest cut: runs, heights, tops -/
theorem ct_dom {oc : Nat → Nat → Prop} {a w st k y h : Nat} (hst : st ≤ a) (hk : a + w ≤ k) (hw : 1 ≤ w) (hh : 1 ≤ h) (hk2 : k ≤ 16) : ct_ky a y w h ≤ ct_ky st y (k - st) h := by
  unfold ct_ky
  by_cases e : a = st
  · subst e
    have : w * h ≤ (k - a) * h := Nat.mul_le_mul_right h (by omega)
    omega
  · have : (w + 1) * h ≤ (k - st) * h := Nat.mul_le_mul_right h (by omega)
    rw [Nat.add_mul, Nat.one_mul] at this
    omega
theorem X_offer_eq {s : ax_S} {oc : Nat → Nat → Prop} {U y h x0 y0 w0 h0 : Nat} (hU : U < 65536) (hy : y + h ≤ 12) (hh : 1 ≤ h) (hoc : ∀ x, x < 16 → (U.testBit x = true ↔ ∃ y', y ≤ y' ∧ y' < y + h ∧ oc x y')) (hs : ct_st s x0 y0 w0 h0) (hok : ct_ok oc x0 y0 w0 h0) :
    ∃ s' x1 y1 w1 h1, XCu_offerFreeRuns (nI U) (nI y) (nI h) s = some s' ∧ ct_st s' x1 y1 w1 h1 ∧ ct_ok oc x1 y1 w1 h1 ∧ ct_ky x0 y0 w0 h0 ≤ ct_ky x1 y1 w1 h1 ∧ (∀ a w, ct_vr a y w h → ct_cl oc a y w h → ct_ky a y w h ≤ ct_ky x1 y1 w1 h1) ∧ (∀ c, c ≠ 55 → s'.2.1 c = s.2.1 c) := by
  unfold XCu_offerFreeRuns
  have hfree : ∀ x, x < 16 → U.testBit x = false → ∀ y', y ≤ y' → y' < y + h → ¬ oc x y' := fun x hx hb y' h1 h2 h3 => by
    have := (hoc x hx).mpr ⟨y', h1, h2, h3⟩
    rw [hb] at this
    cases this
  obtain ⟨b, g1, g2⟩ := z_for (fun n k (a : Nat × ax_S) => XCu_offerFreeRuns_l6 n (nI U) (nI y) (nI h) (nI a.1) (nI k) a.2) 17
    (fun k a => a.1 ≤ k ∧ (k = 17 → a.1 = 17) ∧ (∀ x, a.1 ≤ x → x < k → U.testBit x = false) ∧ ∃ x1 y1 w1 h1, ct_st a.2 x1 y1 w1 h1 ∧ ct_ok oc x1 y1 w1 h1 ∧ ct_ky x0 y0 w0 h0 ≤ ct_ky x1 y1 w1 h1 ∧ (∀ p w, p < a.1 → ct_vr p y w h → ct_cl oc p y w h → ct_ky p y w h ≤ ct_ky x1 y1 w1 h1) ∧ (∀ c, c ≠ 55 → a.2.2.1 c = s.2.1 c))
    (fun b => ∃ x1 y1 w1 h1, ct_st b x1 y1 w1 h1 ∧ ct_ok oc x1 y1 w1 h1 ∧ ct_ky x0 y0 w0 h0 ≤ ct_ky x1 y1 w1 h1 ∧ (∀ a w, ct_vr a y w h → ct_cl oc a y w h → ct_ky a y w h ≤ ct_ky x1 y1 w1 h1) ∧ (∀ c, c ≠ 55 → b.2.1 c = s.2.1 c))
    (fun n a ha => ⟨a.2, by
      show XCu_offerFreeRuns_l6 (n + 1) (nI U) (nI y) (nI h) (nI a.1) (nI 17) a.2 = some a.2
      rw [XCu_offerFreeRuns_l6]
      exact if_pos (by decide), by
      obtain ⟨-, i2, -, x1, y1, w1, h1, j1, j2, j3, j4, j5⟩ := ha
      exact ⟨x1, y1, w1, h1, j1, j2, j3, fun p w v c => j4 p w (by have := i2 rfl; have := v.2.2.1; have := v.1; omega) v c, j5⟩⟩)
    (fun n k a hk ha => Or.inr (by
      obtain ⟨i1, -, i3, x1, y1, w1, h1, j1, j2, j3, j4, j5⟩ := ha
      obtain ⟨st, sa⟩ := a
      dsimp only at i1 i3 j1 j4 j5
      show ∃ a' : Nat × ax_S, XCu_offerFreeRuns_l6 (n + 1) (nI U) (nI y) (nI h) (nI st) (nI k) sa = XCu_offerFreeRuns_l6 n (nI U) (nI y) (nI h) (nI a'.1) (nI (k + 1)) a'.2 ∧ _
      obtain ⟨B1, B2, B3, B4, B5⟩ := ct_bnd j2
      obtain ⟨x2, y2, w2, h2, s2, k1, k2, k3, k4, k5, k6⟩ := ct_offer j1 B1 B2 B3 B5 (st := st) (k := k) (yy := y) (hh := h) i1 (by omega) (by omega) hh (by omega) (fun t => XCu_offerFreeRuns_l6 n (nI U) (nI y) (nI h) (nI (k + 1)) (nI (k + 1)) t)
      have hcand : 1 ≤ k - st → ct_vr st y (k - st) h ∧ ct_cl oc st y (k - st) h := fun hw => ⟨⟨hw, hh, by omega, hy⟩, fun x' y' q1 q2 q3 q4 => hfree x' (by omega) (i3 x' q1 (by omega)) y' q3 q4⟩
      have hend : (k = 16 ∨ U.testBit k = true) → ∃ a' : Nat × ax_S, XCu_offerFreeRuns_l6 n (nI U) (nI y) (nI h) (nI (k + 1)) (nI (k + 1)) s2 = XCu_offerFreeRuns_l6 n (nI U) (nI y) (nI h) (nI a'.1) (nI (k + 1)) a'.2 ∧ (a'.1 ≤ k + 1 ∧ (k + 1 = 17 → a'.1 = 17) ∧ (∀ x, a'.1 ≤ x → x < k + 1 → U.testBit x = false) ∧ ∃ x1 y1 w1 h1, ct_st a'.2 x1 y1 w1 h1 ∧ ct_ok oc x1 y1 w1 h1 ∧ ct_ky x0 y0 w0 h0 ≤ ct_ky x1 y1 w1 h1 ∧ (∀ p w, p < a'.1 → ct_vr p y w h → ct_cl oc p y w h → ct_ky p y w h ≤ ct_ky x1 y1 w1 h1) ∧ (∀ c, c ≠ 55 → a'.2.2.1 c = s.2.1 c)) := by
        intro hb
        refine ⟨(k + 1, s2), rfl, Nat.le_refl _, fun e => e, fun x q1 q2 => absurd q1 (by show ¬ k + 1 ≤ x; omega), x2, y2, w2, h2, k1, ?_, Nat.le_trans j3 k3, fun p w hp v c => ?_, fun c hc => by rw [k2 c hc]; exact j5 c hc⟩
        · rcases k5 with ⟨rfl, rfl, rfl, rfl⟩ | ⟨q1, q2, rfl, rfl, rfl, rfl⟩
          · exact j2
          · exact Or.inr (hcand q1)
        · by_cases hps : p < st
          · exact Nat.le_trans (j4 p w hps v c) k3
          · have hp2 : p < k + 1 := hp
            have hpk : p + w ≤ k := by
              rcases Nat.lt_or_ge k (p + w) with q | q
              · exfalso
                rcases hb with rfl | hb
                · have := v.2.2.1; have := v.1; omega
                · have hk16 : k < 16 := by have := v.2.2.1; omega
                  obtain ⟨y', r1, r2, r3⟩ := (hoc k hk16).mp hb
                  exact c k y' (by omega) q r1 r2 r3
              · exact q
            have hd := ct_dom (oc := oc) (y := y) (h := h) (a := p) (w := w) (st := st) (k := k) (by omega) hpk v.1 hh (by omega)
            exact Nat.le_trans hd (k4 (by have := v.1; omega) hh)
      rw [XCu_offerFreeRuns_l6]
      simp (disch := omega) only [q_16, z_lt, z_eq, z_nlt, z_1, if_false]
      by_cases hk16 : k = 16
      · rw [if_pos hk16]
        have := hend (Or.inl hk16)
        rw [← k6] at this
        exact this
      · rw [if_neg hk16]
        simp only [x_has (show U < 2147483648 by omega) (show k < 32 by omega)]
        by_cases hb : U.testBit k = true
        · rw [if_pos hb]
          have := hend (Or.inr hb)
          rw [← k6] at this
          exact this
        · rw [if_neg hb]
          refine ⟨(st, sa), rfl, by show st ≤ k + 1; omega, fun e => by omega, fun x q1 q2 => ?_, x1, y1, w1, h1, j1, j2, j3, j4, j5⟩
          by_cases e : x = k
          · subst e; simpa using hb
          · exact i3 x q1 (by omega)))
    70000 0 (0, s) (by omega) ⟨Nat.le_refl _, fun e => by omega, fun x _ q => by omega, x0, y0, w0, h0, hs, hok, Nat.le_refl _, fun p w hp => absurd hp (Nat.not_lt_zero _), fun _ _ => rfl⟩ (by omega)
  have g1 : XCu_offerFreeRuns_l6 70000 (nI U) (nI y) (nI h) 0 0 s = some b := g1
  obtain ⟨x1, y1, w1, h1, g3⟩ := g2
  simp only [g1]
  exact ⟨b, x1, y1, w1, h1, rfl, g3⟩
theorem X_heights {s : ax_S} {oc : Nat → Nat → Prop} {y x0 y0 w0 h0 : Nat} (hy : y < 12) (hrow : ∀ y, y < 12 → ∃ m, m < 65536 ∧ s.2.1 56 y = nI m ∧ ∀ x, m.testBit x = true ↔ oc x y) (hs : ct_st s x0 y0 w0 h0) (hok : ct_ok oc x0 y0 w0 h0) :
    ∃ s' x1 y1 w1 h1, XCu_cutWithout_4_l29 70000 (nI y) 0 (nI y) s = some s' ∧ ct_st s' x1 y1 w1 h1 ∧ ct_ok oc x1 y1 w1 h1 ∧ ct_ky x0 y0 w0 h0 ≤ ct_ky x1 y1 w1 h1 ∧ (∀ a w h, ct_vr a y w h → ct_cl oc a y w h → ct_ky a y w h ≤ ct_ky x1 y1 w1 h1) ∧ (∀ c, c ≠ 55 → s'.2.1 c = s.2.1 c) := by
  obtain ⟨b, g1, g2⟩ := z_for (fun n k (a : Nat × ax_S) => XCu_cutWithout_4_l29 n (nI y) (nI a.1) (nI k) a.2) 12
    (fun k a => y ≤ k ∧ a.1 < 65536 ∧ (∀ x, x < 16 → (a.1.testBit x = true ↔ ∃ y', y ≤ y' ∧ y' < k ∧ oc x y')) ∧ ∃ x1 y1 w1 h1, ct_st a.2 x1 y1 w1 h1 ∧ ct_ok oc x1 y1 w1 h1 ∧ ct_ky x0 y0 w0 h0 ≤ ct_ky x1 y1 w1 h1 ∧ (∀ p w h, y + h ≤ k → ct_vr p y w h → ct_cl oc p y w h → ct_ky p y w h ≤ ct_ky x1 y1 w1 h1) ∧ (∀ c, c ≠ 55 → a.2.2.1 c = s.2.1 c))
    (fun b => ∃ x1 y1 w1 h1, ct_st b x1 y1 w1 h1 ∧ ct_ok oc x1 y1 w1 h1 ∧ ct_ky x0 y0 w0 h0 ≤ ct_ky x1 y1 w1 h1 ∧ (∀ a w h, ct_vr a y w h → ct_cl oc a y w h → ct_ky a y w h ≤ ct_ky x1 y1 w1 h1) ∧ (∀ c, c ≠ 55 → b.2.1 c = s.2.1 c))
    (fun n a ha => ⟨a.2, by
      show XCu_cutWithout_4_l29 (n + 1) (nI y) (nI a.1) (nI 12) a.2 = some a.2
      rw [XCu_cutWithout_4_l29]
      exact if_pos (by decide), by
      obtain ⟨-, -, -, x1, y1, w1, h1, j1, j2, j3, j4, j5⟩ := ha
      exact ⟨x1, y1, w1, h1, j1, j2, j3, fun p w h v c => j4 p w h v.2.2.2 v c, j5⟩⟩)
    (fun n k a hk ha => Or.inr (by
      obtain ⟨i1, i2, i3, x1, y1, w1, h1, j1, j2, j3, j4, j5⟩ := ha
      obtain ⟨U, sa⟩ := a
      dsimp only at i2 i3 j1 j4 j5
      show ∃ a' : Nat × ax_S, XCu_cutWithout_4_l29 (n + 1) (nI y) (nI U) (nI k) sa = XCu_cutWithout_4_l29 n (nI y) (nI a'.1) (nI (k + 1)) a'.2 ∧ _
      obtain ⟨m, m1, m2, m3⟩ := hrow k hk
      have hU : ∀ x, x < 16 → ((U ||| m).testBit x = true ↔ ∃ y', y ≤ y' ∧ y' < k + 1 ∧ oc x y') := fun x hx => by
        rw [Nat.testBit_or, Bool.or_eq_true, i3 x hx, m3]
        constructor
        · rintro (⟨y', q1, q2, q3⟩ | q)
          · exact ⟨y', q1, by omega, q3⟩
          · exact ⟨k, i1, by omega, q⟩
        · rintro ⟨y', q1, q2, q3⟩
          rcases Nat.lt_or_eq_of_le (Nat.lt_succ_iff.mp q2) with q | rfl
          · exact Or.inl ⟨y', q1, q, q3⟩
          · exact Or.inr q3
      have e0 : sa.2.1 56 k = nI m := by rw [j5 56 (by omega)]; exact m2
      obtain ⟨s2, x2, y2, w2, h2, k1, k2, k3, k4, k5, k6⟩ := X_offer_eq (s := sa) (oc := oc) (U := U ||| m) (y := y) (h := k - y + 1) (x_orlt i2 m1) (by omega) (by omega) (by rw [show y + (k - y + 1) = k + 1 by omega]; exact hU) j1 j2
      refine ⟨(U ||| m, s2), ?_, by omega, x_orlt i2 m1, hU, x2, y2, w2, h2, k2, k3, Nat.le_trans j3 k4, fun p w h q v c => ?_, fun c hc => by rw [k6 c hc]; exact j5 c hc⟩
      · rw [XCu_cutWithout_4_l29]
        simp (disch := omega) only [q_12, z_le, z_nle, z_cl, z_lt0, z_1, z_sub, if_false, or_self]
        rw [e0, x_or, k1]
      · by_cases e : y + h ≤ k
        · exact Nat.le_trans (j4 p w h e v c) k4
        · obtain rfl : h = k - y + 1 := by omega
          exact k5 p w v c))
    70000 y (0, s) (by omega) ⟨Nat.le_refl _, by show 0 < 65536; omega, fun x hx => ⟨fun e => by simp at e, fun ⟨y', q1, q2, _⟩ => by omega⟩, x0, y0, w0, h0, hs, hok, Nat.le_refl _, fun p w h q v => by have := v.2.1; omega, fun _ _ => rfl⟩ (by omega)
  obtain ⟨x1, y1, w1, h1, g3⟩ := g2
  exact ⟨b, x1, y1, w1, h1, g1, g3⟩
theorem X_cut_eq {s : ax_S} {F : z_V} (ha : v_at s.2.1 5 F) (hv : v_val F) {P : Nat} (hP : P < 65536) :
    ∃ s' x y w h, XCu_cutWithout_4 (nI P) s = some s' ∧ ct_st s' x y w h ∧ ct_best (v_oc F P 0) x y w h ∧ (∀ c, c ≠ 55 → c ≠ 56 → s'.2.1 c = s.2.1 c) := by
  unfold XCu_cutWithout_4
  obtain ⟨s1, g1, g2, g3⟩ := X_layOut_eq ha hv hP (Nat.zero_le 12)
  have g1 : XCu_layOut_4 (nI P) 0 s = some s1 := g1
  simp only [g1]
  obtain ⟨p1, p2, p3, p4, p5⟩ := ct_put 0 0 0 0 s1
  obtain ⟨b, e1, e2⟩ := z_for (fun n k (a : ax_S) => XCu_cutWithout_4_l17 n (nI k) a) 12
    (fun k a => ∃ x1 y1 w1 h1, ct_st a x1 y1 w1 h1 ∧ ct_ok (v_oc F P 0) x1 y1 w1 h1 ∧ (∀ p y w h, y < k → ct_vr p y w h → ct_cl (v_oc F P 0) p y w h → ct_ky p y w h ≤ ct_ky x1 y1 w1 h1) ∧ (∀ c, c ≠ 55 → a.2.1 c = s1.2.1 c))
    (fun a => ∃ x1 y1 w1 h1, ct_st a x1 y1 w1 h1 ∧ ct_best (v_oc F P 0) x1 y1 w1 h1 ∧ (∀ c, c ≠ 55 → a.2.1 c = s1.2.1 c))
    (fun n a ha => ⟨a, by
      show XCu_cutWithout_4_l17 (n + 1) (nI 12) a = some a
      rw [XCu_cutWithout_4_l17]
      exact if_pos (by decide), by
      obtain ⟨x1, y1, w1, h1, j1, j2, j3, j4⟩ := ha
      exact ⟨x1, y1, w1, h1, j1, ⟨j2, fun p y w h v c => j3 p y w h (by have := v.2.2.2; have := v.2.1; omega) v c⟩, j4⟩⟩)
    (fun n k a hk ha => Or.inr (by
      obtain ⟨x1, y1, w1, h1, j1, j2, j3, j4⟩ := ha
      obtain ⟨s2, x2, y2, w2, h2, k1, k2, k3, k4, k5, k6⟩ := X_heights (s := a) (oc := v_oc F P 0) (y := k) hk (fun y hy => by rw [j4 56 (by omega)]; exact g2 y hy) j1 j2
      refine ⟨s2, ?_, x2, y2, w2, h2, k2, k3, fun p y w h q v c => ?_, fun c hc => by rw [k6 c hc]; exact j4 c hc⟩
      · show XCu_cutWithout_4_l17 (n + 1) (nI k) a = XCu_cutWithout_4_l17 n (nI (k + 1)) s2
        rw [XCu_cutWithout_4_l17]
        simp (disch := omega) only [q_12, z_le, z_nle, z_1, if_false]
        rw [k1]
      · by_cases e : y < k
        · exact Nat.le_trans (j3 p y w h e v c) k4
        · obtain rfl : y = k := by omega
          exact k5 p w h v c))
    70000 0 (XCu_put 0 0 0 0 s1) (by omega) ⟨0, 0, 0, 0, ⟨p1, p2, p3, p4⟩, Or.inl ⟨rfl, rfl, rfl, rfl⟩, fun p y w h q => absurd q (Nat.not_lt_zero _), p5⟩ (by omega)
  have e1 : XCu_cutWithout_4_l17 70000 0 (XCu_put 0 0 0 0 s1) = some b := e1
  obtain ⟨x1, y1, w1, h1, e3, e4, e5⟩ := e2
  simp only [e1]
  exact ⟨b, x1, y1, w1, h1, rfl, e3, e4, fun c hc hc2 => by rw [e5 c hc, g3 c hc2]⟩
