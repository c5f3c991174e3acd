/-! the class's smallest rectangle -/
theorem X_whole_n {s : ax_S} {F : z_V} (ha : v_at s.2.1 5 F) (hv : v_val F) {x y w h : Nat} (hx : x + w ≤ 100) (hy : y + h ≤ 100) : XFi_wholeIn_4 (nI x) (nI y) (nI w) (nI h) s = some (nI (s_wm F x y w h)) := by
  rw [X_whole_eq, ← s_gW hv hx hy]
  congr 1
  refine z_or_congr 12 fun i hi => ?_
  unfold g_W v_wh v_bit vX
  rw [ha 0 i (by omega) hi, ha 1 i (by omega) hi, ha 2 i (by omega) hi, ha 3 i (by omega) hi, ha 4 i (by omega) hi]
theorem M_whole_n {s : ax_S} {F : z_V} (ha : v_aM s.2.1 F) (hv : v_val F) {x y w h : Nat} (hx : x + w ≤ 100) (hy : y + h ≤ 100) : M_wholeIn (nI x) (nI y) (nI w) (nI h) s = some (nI (s_wm F x y w h)) := by
  rw [M_whole_eq, ← s_gW hv hx hy]
  congr 1
  refine z_or_congr 12 fun i hi => ?_
  unfold g_W v_wh v_bit vM
  rw [ha 0 i (by omega) hi, ha 1 i (by omega) hi, ha 2 i (by omega) hi, ha 3 i (by omega) hi, ha 4 i (by omega) hi]
theorem s_k1 {A B y x w y1 x1 w1 : Nat} (h : B < A) (hA : A ≤ 192) (hy : y ≤ 11) (hx : x ≤ 15) (hw : w ≤ 16) (hy1 : y1 ≤ 11) (hx1 : x1 ≤ 15) (hw1 : w1 ≤ 16) : (193 - A) * 3264 + (11 - y1) * 272 + (15 - x1) * 17 + w1 ≤ (193 - B) * 3264 + (11 - y) * 272 + (15 - x) * 17 + w := by omega
theorem s_k2 {A B y x w y1 x1 w1 : Nat} (h : A = B) (hy : y ≤ 11) (hx : x ≤ 15) (hw : w ≤ 16) (hy1 : y1 ≤ 11) (hx1 : x1 ≤ 15) (hw1 : w1 ≤ 16) (c : y < y1 ∨ (y = y1 ∧ (x < x1 ∨ (x = x1 ∧ w1 < w)))) : (193 - A) * 3264 + (11 - y1) * 272 + (15 - x1) * 17 + w1 ≤ (193 - B) * 3264 + (11 - y) * 272 + (15 - x) * 17 + w := by omega
theorem s_k3 {A B y x w y1 x1 w1 : Nat} (h : A = B) (hy : y ≤ 11) (hx : x ≤ 15) (hw : w ≤ 16) (hy1 : y1 ≤ 11) (hx1 : x1 ≤ 15) (hw1 : w1 ≤ 16) (c : ¬ (y < y1 ∨ (y = y1 ∧ (x < x1 ∨ (x = x1 ∧ w1 < w))))) : (193 - A) * 3264 + (11 - y) * 272 + (15 - x) * 17 + w ≤ (193 - B) * 3264 + (11 - y1) * 272 + (15 - x1) * 17 + w1 := by omega
theorem s_neg {a b : Nat} (ha : a < 1073741824) (hb : b < 1073741824) : (nI a - nI b < 0) = (a < b) := by
  rw [Int32.lt_iff_toInt_lt, pk_sub_toInt (by omega) (by omega)]
  have : (0 : Int32).toInt = 0 := rfl
  rw [this]
  exact propext (by omega)
theorem s_acc {F : z_V} (hv : v_val F) {many P : Nat} (hm : many ≤ 16) (hP : P < 65536) (x y w h : Nat) (s : ax_S) {β : Type} (A B : β) : (s_c F many P x y w h ∧ (if J_bitCount (nI (s_wm F x y w h)) s < nI many then B else if (nI P &&& (nI (s_wm F x y w h) ^^^ (-1))) = 0 then A else B) = A) ∨ (¬ s_c F many P x y w h ∧ (if J_bitCount (nI (s_wm F x y w h)) s < nI many then B else if (nI P &&& (nI (s_wm F x y w h) ^^^ (-1))) = 0 then A else B) = B) := by
  have h1 := s_wm_lt hv x y w h
  have hp : x_pop (s_wm F x y w h) ≤ 16 := fb_ct_le _ _
  rw [x_bc h1, x_not hP]
  have h2 := x_sublt hP (s_wm F x y w h)
  simp only [z_lt (show x_pop (s_wm F x y w h) < 2147483648 by omega) (show many < 2147483648 by omega), z_eq0 (show x_sub P (s_wm F x y w h) < 2147483648 by omega)]
  unfold s_c
  by_cases c1 : x_pop (s_wm F x y w h) < many
  · rw [if_pos c1]; exact Or.inr ⟨fun q => by omega, rfl⟩
  · rw [if_neg c1]
    by_cases c2 : x_sub P (s_wm F x y w h) = 0
    · rw [if_pos c2]; exact Or.inl ⟨⟨by omega, c2⟩, rfl⟩
    · rw [if_neg c2]; exact Or.inr ⟨fun q => c2 q.2, rfl⟩
theorem X_shw {s : ax_S} {F : z_V} (ha : v_at s.2.1 5 F) (hv : v_val F) {many P x y h x0 y0 w0 h0 : Nat} (hm : many ≤ 16) (hP : P < 65536) (hx : x < 16) (hy : y + h ≤ 12) (hh : 1 ≤ h) (hs : ct_st s x0 y0 w0 h0) (hok : s_ok (s_c F many P) x0 y0 w0 h0) :
    ∃ s' x1 y1 w1 h1, XCu_shrinkFrom_4_l15 70000 (nI x) (nI y) (nI many) (nI P) (nI h) 1 s = some s' ∧ ct_st s' x1 y1 w1 h1 ∧ s_ok (s_c F many P) x1 y1 w1 h1 ∧ s_ky x0 y0 w0 h0 ≤ s_ky x1 y1 w1 h1 ∧ (∀ w, ct_vr x y w h → s_c F many P x y w h → s_ky x y w h ≤ s_ky x1 y1 w1 h1) ∧ (∀ c, c ≠ 55 → s'.2.1 c = s.2.1 c) := by
  obtain ⟨b, g1, g2⟩ := z_for (fun n k (a : ax_S) => XCu_shrinkFrom_4_l15 n (nI x) (nI y) (nI many) (nI P) (nI h) (nI (k + 1)) a) (16 - x)
    (fun k a => ∃ x1 y1 w1 h1, ct_st a x1 y1 w1 h1 ∧ s_ok (s_c F many P) x1 y1 w1 h1 ∧ s_ky x0 y0 w0 h0 ≤ s_ky x1 y1 w1 h1 ∧ (∀ w, w ≤ k → ct_vr x y w h → s_c F many P x y w h → s_ky x y w h ≤ s_ky x1 y1 w1 h1) ∧ (∀ c, c ≠ 55 → a.2.1 c = s.2.1 c))
    (fun b => ∃ x1 y1 w1 h1, ct_st b x1 y1 w1 h1 ∧ s_ok (s_c F many P) x1 y1 w1 h1 ∧ s_ky x0 y0 w0 h0 ≤ s_ky x1 y1 w1 h1 ∧ (∀ w, ct_vr x y w h → s_c F many P x y w h → s_ky x y w h ≤ s_ky x1 y1 w1 h1) ∧ (∀ c, c ≠ 55 → b.2.1 c = s.2.1 c))
    (fun n a ha => ⟨a, by
      show XCu_shrinkFrom_4_l15 (n + 1) (nI x) (nI y) (nI many) (nI P) (nI h) (nI (16 - x + 1)) a = some a
      rw [XCu_shrinkFrom_4_l15]
      exact if_pos (by rw [q_16, z_sub (by omega), z_lt (by omega) (by omega)]; omega), by
      obtain ⟨x1, y1, w1, h1, j1, j2, j3, j4, j5⟩ := ha
      exact ⟨x1, y1, w1, h1, j1, j2, j3, fun w v c => j4 w (by have := v.2.2.1; omega) v c, j5⟩⟩)
    (fun n k a hk hI => Or.inr (by
      obtain ⟨x1, y1, w1, h1, j1, j2, j3, j4, j5⟩ := hI
      obtain ⟨B1, B2, B3, B4, B5, B6⟩ := s_bnd j2
      show ∃ a', XCu_shrinkFrom_4_l15 (n + 1) (nI x) (nI y) (nI many) (nI P) (nI h) (nI (k + 1)) a = XCu_shrinkFrom_4_l15 n (nI x) (nI y) (nI many) (nI P) (nI h) (nI (k + 1 + 1)) a' ∧ _
      have hm2 : (k + 1) * h ≤ 192 := ct_mul (by omega) (by omega)
      have hp2 : 1 ≤ (k + 1) * h := ct_pos (by omega) hh
      have hcells : XCu_cells a = nI (w1 * h1) := by unfold XCu_cells; rw [j1.2.2.1, j1.2.2.2, pk_mul]
      have hv2 : ct_vr x y (k + 1) h := ⟨by omega, hh, by omega, hy⟩
      rw [XCu_shrinkFrom_4_l15, X_whole_n (v_at_fr ha fun c _ _ => j5 c (by omega)) hv (by omega) (by omega), hcells, pk_mul, z_1]
      simp only [z_eq0 (show w1 * h1 < 2147483648 by omega), s_neg (show (k + 1) * h < 1073741824 by omega) (show w1 * h1 < 1073741824 by omega), zs_eq (show (k + 1) * h < 1073741824 by omega) (show w1 * h1 < 1073741824 by omega), ct_ahead j1 (show x1 < 1000 by omega) (show y1 < 1000 by omega) (show w1 < 1000 by omega) (show x < 1000 by omega) (show y < 1000 by omega) (show k + 1 < 1000 by omega)]
      rw [if_neg (show ¬ ((16 : Int32) - nI x < nI (k + 1)) by rw [q_16, z_sub (by omega), z_lt (by omega) (by omega)]; omega)]
      obtain ⟨p1, p2, p3, p4, p5⟩ := ct_put (nI x) (nI y) (nI (k + 1)) (nI h) a
      have hy11 : y ≤ 11 := by omega
      have hx15 : x ≤ 15 := by omega
      have hk16 : k + 1 ≤ 16 := by omega
      have hkeep : (s_c F many P x y (k + 1) h → s_ky x y (k + 1) h ≤ s_ky x1 y1 w1 h1) → (∃ x1 y1 w1 h1, ct_st a x1 y1 w1 h1 ∧ s_ok (s_c F many P) x1 y1 w1 h1 ∧ s_ky x0 y0 w0 h0 ≤ s_ky x1 y1 w1 h1 ∧ (∀ w, w ≤ k + 1 → ct_vr x y w h → s_c F many P x y w h → s_ky x y w h ≤ s_ky x1 y1 w1 h1) ∧ (∀ c, c ≠ 55 → a.2.1 c = s.2.1 c)) := fun q => ⟨x1, y1, w1, h1, j1, j2, j3, fun w hw v c => by
        by_cases e : w = k + 1
        · subst e; exact q c
        · exact j4 w (by omega) v c, j5⟩
      have hput : s_c F many P x y (k + 1) h → s_ky x1 y1 w1 h1 ≤ s_ky x y (k + 1) h → (∃ x1 y1 w1 h1, ct_st (XCu_put (nI x) (nI y) (nI (k + 1)) (nI h) a) x1 y1 w1 h1 ∧ s_ok (s_c F many P) x1 y1 w1 h1 ∧ s_ky x0 y0 w0 h0 ≤ s_ky x1 y1 w1 h1 ∧ (∀ w, w ≤ k + 1 → ct_vr x y w h → s_c F many P x y w h → s_ky x y w h ≤ s_ky x1 y1 w1 h1) ∧ (∀ c, c ≠ 55 → (XCu_put (nI x) (nI y) (nI (k + 1)) (nI h) a).2.1 c = s.2.1 c)) := fun q q2 => ⟨x, y, k + 1, h, ⟨p1, p2, p3, p4⟩, Or.inr ⟨hv2, q⟩, Nat.le_trans j3 q2, fun w hw v c => by
        by_cases e : w = k + 1
        · subst e; exact Nat.le_refl _
        · exact Nat.le_trans (j4 w (by omega) v c) q2, fun c hc => by rw [p5 c hc]; exact j5 c hc⟩
      obtain ⟨K1, -, -⟩ := s_kyp hv2
      have K2 : w1 * h1 ≠ 0 → s_ky x1 y1 w1 h1 = (193 - w1 * h1) * 3264 + (11 - y1) * 272 + (15 - x1) * 17 + w1 := fun q => if_neg q
      have K3 : w1 * h1 = 0 → s_ky x1 y1 w1 h1 = 0 := fun q => if_pos q
      have hacc : s_ky x1 y1 w1 h1 ≤ s_ky x y (k + 1) h → ∃ a', (if J_bitCount (nI (s_wm F x y (k + 1) h)) a < nI many then XCu_shrinkFrom_4_l15 n (nI x) (nI y) (nI many) (nI P) (nI h) (nI (k + 1 + 1)) a else if (nI P &&& (nI (s_wm F x y (k + 1) h) ^^^ (-1))) = 0 then XCu_shrinkFrom_4_l15 n (nI x) (nI y) (nI many) (nI P) (nI h) (nI (k + 1 + 1)) (XCu_put (nI x) (nI y) (nI (k + 1)) (nI h) a) else XCu_shrinkFrom_4_l15 n (nI x) (nI y) (nI many) (nI P) (nI h) (nI (k + 1 + 1)) a) = XCu_shrinkFrom_4_l15 n (nI x) (nI y) (nI many) (nI P) (nI h) (nI (k + 1 + 1)) a' ∧ (∃ x1 y1 w1 h1, ct_st a' x1 y1 w1 h1 ∧ s_ok (s_c F many P) x1 y1 w1 h1 ∧ s_ky x0 y0 w0 h0 ≤ s_ky x1 y1 w1 h1 ∧ (∀ w, w ≤ k + 1 → ct_vr x y w h → s_c F many P x y w h → s_ky x y w h ≤ s_ky x1 y1 w1 h1) ∧ (∀ c, c ≠ 55 → a'.2.1 c = s.2.1 c)) := fun hle => by
        rcases s_acc hv hm hP x y (k + 1) h a (XCu_shrinkFrom_4_l15 n (nI x) (nI y) (nI many) (nI P) (nI h) (nI (k + 1 + 1)) (XCu_put (nI x) (nI y) (nI (k + 1)) (nI h) a)) (XCu_shrinkFrom_4_l15 n (nI x) (nI y) (nI many) (nI P) (nI h) (nI (k + 1 + 1)) a) with ⟨c, e⟩ | ⟨c, e⟩
        · exact ⟨_, e, hput c hle⟩
        · exact ⟨_, e, hkeep fun q => absurd q c⟩
      by_cases c0 : w1 * h1 = 0
      · rw [if_pos c0]
        exact hacc (by rw [K3 c0]; exact Nat.zero_le _)
      · rw [if_neg c0]
        have K4 := K2 c0
        by_cases c1 : (k + 1) * h < w1 * h1
        · rw [if_pos c1]
          exact hacc (by rw [K1, K4]; exact s_k1 c1 B5 hy11 hx15 hk16 B2 B1 B3)
        · rw [if_neg c1]
          by_cases c2 : (k + 1) * h = w1 * h1
          · rw [if_pos c2]
            by_cases c3 : y < y1 ∨ (y = y1 ∧ (x < x1 ∨ (x = x1 ∧ w1 < k + 1)))
            · rw [if_neg (not_not_intro c3)]
              exact hacc (by rw [K1, K4]; exact s_k2 c2.symm hy11 hx15 hk16 B2 B1 B3 c3)
            · rw [if_pos c3]
              exact ⟨a, rfl, hkeep fun _ => by rw [K1, K4]; exact s_k3 c2 hy11 hx15 hk16 B2 B1 B3 c3⟩
          · rw [if_neg c2]
            exact ⟨a, rfl, hkeep fun _ => by rw [K1, K4]; exact s_k1 (Nat.lt_of_le_of_ne (Nat.not_lt.mp c1) (Ne.symm c2)) hm2 B2 B1 B3 hy11 hx15 hk16⟩))
    70000 0 s (by omega) ⟨x0, y0, w0, h0, hs, hok, Nat.le_refl _, fun w hw v => by have := v.1; omega, fun _ _ => rfl⟩ (by omega)
  obtain ⟨x1, y1, w1, h1, g3⟩ := g2
  exact ⟨b, x1, y1, w1, h1, g1, g3⟩
theorem X_shh {s : ax_S} {F : z_V} (ha : v_at s.2.1 5 F) (hv : v_val F) {many P x y x0 y0 w0 h0 : Nat} (hm : many ≤ 16) (hP : P < 65536) (hx : x < 16) (hy : y < 12) (hs : ct_st s x0 y0 w0 h0) (hok : s_ok (s_c F many P) x0 y0 w0 h0) :
    ∃ s' x1 y1 w1 h1, XCu_shrinkFrom_4 (nI x) (nI y) (nI many) (nI P) s = some s' ∧ ct_st s' x1 y1 w1 h1 ∧ s_ok (s_c F many P) x1 y1 w1 h1 ∧ s_ky x0 y0 w0 h0 ≤ s_ky x1 y1 w1 h1 ∧ (∀ w h, ct_vr x y w h → s_c F many P x y w h → s_ky x y w h ≤ s_ky x1 y1 w1 h1) ∧ (∀ c, c ≠ 55 → s'.2.1 c = s.2.1 c) := by
  unfold XCu_shrinkFrom_4
  obtain ⟨b, g1, g2⟩ := z_for (fun n k (a : ax_S) => XCu_shrinkFrom_4_l3 n (nI x) (nI y) (nI many) (nI P) (nI (k + 1)) a) (12 - y)
    (fun k a => ∃ x1 y1 w1 h1, ct_st a x1 y1 w1 h1 ∧ s_ok (s_c F many P) x1 y1 w1 h1 ∧ s_ky x0 y0 w0 h0 ≤ s_ky x1 y1 w1 h1 ∧ (∀ w h, h ≤ k → ct_vr x y w h → s_c F many P x y w h → s_ky x y w h ≤ s_ky x1 y1 w1 h1) ∧ (∀ c, c ≠ 55 → a.2.1 c = s.2.1 c))
    (fun b => ∃ x1 y1 w1 h1, ct_st b x1 y1 w1 h1 ∧ s_ok (s_c F many P) x1 y1 w1 h1 ∧ s_ky x0 y0 w0 h0 ≤ s_ky x1 y1 w1 h1 ∧ (∀ w h, ct_vr x y w h → s_c F many P x y w h → s_ky x y w h ≤ s_ky x1 y1 w1 h1) ∧ (∀ c, c ≠ 55 → b.2.1 c = s.2.1 c))
    (fun n a ha => ⟨a, by
      show XCu_shrinkFrom_4_l3 (n + 1) (nI x) (nI y) (nI many) (nI P) (nI (12 - y + 1)) a = some a
      rw [XCu_shrinkFrom_4_l3]
      exact if_pos (by rw [q_12, z_sub (by omega), z_lt (by omega) (by omega)]; omega), by
      obtain ⟨x1, y1, w1, h1, j1, j2, j3, j4, j5⟩ := ha
      exact ⟨x1, y1, w1, h1, j1, j2, j3, fun w h v c => j4 w h (by have := v.2.2.2; omega) v c, j5⟩⟩)
    (fun n k a hk hI => Or.inr (by
      obtain ⟨x1, y1, w1, h1, j1, j2, j3, j4, j5⟩ := hI
      obtain ⟨s2, x2, y2, w2, h2, k1, k2, k3, k4, k5, k6⟩ := X_shw (s := a) (v_at_fr ha fun c _ _ => j5 c (by omega)) hv (many := many) (P := P) (x := x) (y := y) (h := k + 1) hm hP hx (by omega) (by omega) j1 j2
      refine ⟨s2, ?_, x2, y2, w2, h2, k2, k3, Nat.le_trans j3 k4, fun w h q v c => ?_, fun c hc => by rw [k6 c hc]; exact j5 c hc⟩
      · show XCu_shrinkFrom_4_l3 (n + 1) (nI x) (nI y) (nI many) (nI P) (nI (k + 1)) a = XCu_shrinkFrom_4_l3 n (nI x) (nI y) (nI many) (nI P) (nI (k + 1 + 1)) s2
        rw [XCu_shrinkFrom_4_l3, if_neg (show ¬ ((12 : Int32) - nI y < nI (k + 1)) by rw [q_12, z_sub (by omega), z_lt (by omega) (by omega)]; omega), k1, z_1]
      · by_cases e : h = k + 1
        · subst e; exact k5 w v c
        · exact Nat.le_trans (j4 w h (by omega) v c) k4))
    70000 0 s (by omega) ⟨x0, y0, w0, h0, hs, hok, Nat.le_refl _, fun w h hh v => by have := v.2.1; omega, fun _ _ => rfl⟩ (by omega)
  have g1 : XCu_shrinkFrom_4_l3 70000 (nI x) (nI y) (nI many) (nI P) 1 s = some b := g1
  obtain ⟨x1, y1, w1, h1, g3⟩ := g2
  simp only [g1]
  exact ⟨b, x1, y1, w1, h1, rfl, g3⟩
def s_lb (F : z_V) (k i : Nat) : Nat := if F 0 i = -1 then 0 else 2 ^ v_n F k i
theorem s_lb_lt {F : z_V} (hv : v_val F) {i k : Nat} (hi : i < 12) (hk : k < 3) : s_lb F k i < 65536 := by
  unfold s_lb
  split
  · omega
  · rename_i ht
    rcases hv i hi with c | ⟨-, -, -, -, -, b0, b1, b2, b3, b4⟩
    · exact absurd c ht
    · have : k = 0 ∨ k = 1 ∨ k = 2 := by omega
      rcases this with rfl | rfl | rfl
      · exact x_plt b0
      · exact x_plt (by omega)
      · exact x_plt (by omega)
theorem s_lb_tb (F : z_V) (k x : Nat) : (z_nor (s_lb F k) 12).testBit x = true ↔ ∃ i, i < 12 ∧ ¬ F 0 i = -1 ∧ v_n F k i = x := by
  rw [z_nor_tb]
  unfold s_lb
  constructor
  · rintro ⟨i, hi, e⟩
    by_cases c : F 0 i = -1
    · rw [if_pos c] at e; simp at e
    · rw [if_neg c, x_pow] at e; exact ⟨i, hi, c, by simpa using e⟩
  · rintro ⟨i, hi, c, rfl⟩
    exact ⟨i, hi, by rw [if_neg c, x_pow]; simp⟩
theorem X_lefts_eq {s : ax_S} {F : z_V} (ha : v_at s.2.1 5 F) (hv : v_val F) : XFi_lefts_4 s = some (nI (z_nor (s_lb F 1) 12)) := by
  unfold XFi_lefts_4
  obtain ⟨b, h1, h2⟩ := z_for (fun n k a => XFi_lefts_4_l4 n a (nI k) s) 12 (fun k a => a = nI (z_nor (s_lb F 1) k)) (fun b => b = nI (z_nor (s_lb F 1) 12)) (fun n a ha => ⟨a, by rw [XFi_lefts_4_l4]; exact if_pos (by decide), ha⟩) (fun n k a hk hI => Or.inr ⟨_, (by
      show XFi_lefts_4_l4 (n + 1) a (nI k) s = XFi_lefts_4_l4 n (a ||| nI (s_lb F 1 k)) (nI (k + 1)) s
      have e0 : s.2.1 5 k = F 0 k := ha 0 k (by omega) hk
      have e1 : s.2.1 6 k = F 1 k := ha 1 k (by omega) hk
      rw [XFi_lefts_4_l4, X_told_eq s k hk]
      simp (disch := omega) only [q_12, z_le, z_nle, z_cl, z_lt0, z_1, if_false, or_self]
      rw [e0, e1]
      unfold s_lb
      rcases hv k hk with c | c
      · simp [c, nI_0]
      · by_cases d : F 0 k = -1
        · simp [d, nI_0]
        · simp only [d, if_false, z_10]
          rw [c.2.1, x_shl _ (by omega)]), by rw [hI, x_or]; rfl⟩) 70000 0 0 (by omega) rfl (by omega)
  have h1 : XFi_lefts_4_l4 70000 0 0 s = some b := h1
  rw [h1, h2]
theorem X_tops_eq {s : ax_S} {F : z_V} (ha : v_at s.2.1 5 F) (hv : v_val F) : XFi_tops_4 s = some (nI (z_nor (s_lb F 2) 12)) := by
  unfold XFi_tops_4
  obtain ⟨b, h1, h2⟩ := z_for (fun n k a => XFi_tops_4_l4 n a (nI k) s) 12 (fun k a => a = nI (z_nor (s_lb F 2) k)) (fun b => b = nI (z_nor (s_lb F 2) 12)) (fun n a ha => ⟨a, by rw [XFi_tops_4_l4]; exact if_pos (by decide), ha⟩) (fun n k a hk hI => Or.inr ⟨_, (by
      show XFi_tops_4_l4 (n + 1) a (nI k) s = XFi_tops_4_l4 n (a ||| nI (s_lb F 2 k)) (nI (k + 1)) s
      have e0 : s.2.1 5 k = F 0 k := ha 0 k (by omega) hk
      have e1 : s.2.1 7 k = F 2 k := ha 2 k (by omega) hk
      rw [XFi_tops_4_l4, X_told_eq s k hk]
      simp (disch := omega) only [q_12, z_le, z_nle, z_cl, z_lt0, z_1, if_false, or_self]
      rw [e0, e1]
      unfold s_lb
      rcases hv k hk with c | c
      · simp [c, nI_0]
      · by_cases d : F 0 k = -1
        · simp [d, nI_0]
        · simp only [d, if_false, z_10]
          rw [c.2.2.1, x_shl _ (by omega)]), by rw [hI, x_or]; rfl⟩) 70000 0 0 (by omega) rfl (by omega)
  have h1 : XFi_tops_4_l4 70000 0 0 s = some b := h1
  rw [h1, h2]
theorem X_pers_n {s : ax_S} {F : z_V} (ha : v_at s.2.1 5 F) (hv : v_val F) : XFi_persons_4 s = some (nI (z_nor (s_lb F 0) 12)) := by
  rw [XFi_persons_4_eq]
  congr 1
  refine z_orE 12 fun i hi => ?_
  unfold v_bit vX s_lb
  rw [ha 0 i (by omega) hi]
  rcases hv i hi with c | c
  · rw [if_pos c, if_pos c]; rfl
  · by_cases d : F 0 i = -1
    · rw [if_pos d, if_pos d]; rfl
    · rw [if_neg d, if_neg d, c.1, x_shl _ (by omega)]
