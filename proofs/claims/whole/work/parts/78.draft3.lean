/-! the draft: the top row, the album, the marks, a day, days -/
theorem d_loseXQ {s : ax_S} {x y w h σ : Nat} (hs : ct_st s x y w h) (hy : y ≤ 100) (hh : h ≤ 100) (hσ : σ ≤ 1) (a b c : Int32) : ct_st (XSt_live_25_36_j84 a b c (nI σ) (nI σ) s) x (d_y σ y h) w (d_h σ h) ∧ ∀ c' j, c' ≠ 55 → (XSt_live_25_36_j84 a b c (nI σ) (nI σ) s).2.1 c' j = s.2.1 c' j := by
  unfold XSt_live_25_36_j84 d_y d_h
  by_cases h0 : σ = 0
  · subst h0
    rw [if_pos (show nI 0 = 0 from rfl), if_neg (by omega), if_neg (by omega)]
    exact ⟨hs, fun _ _ _ => rfl⟩
  · obtain rfl : σ = 1 := by omega
    rw [if_neg (show ¬ nI 1 = 0 by decide)]
    unfold XCu_loseTopRow
    obtain ⟨s1, s2, s3, s4⟩ := hs
    rw [s4, s2]
    by_cases c1 : h ≤ 1
    · rw [if_pos (by rw [q_1, z_le (by omega) (by omega)]; exact c1), if_neg (by omega), if_neg (by omega)]
      exact ⟨⟨s1, s2, s3, s4⟩, fun _ _ _ => rfl⟩
    · rw [if_neg (by rw [q_1, z_le (by omega) (by omega)]; exact c1), if_pos ⟨rfl, c1⟩, if_pos ⟨rfl, c1⟩, show nI h - 1 = nI (h - 1) from z_sub (a := h) (b := 1) (by omega), z_1]
      refine ⟨⟨?_, ?_, ?_, ?_⟩, fun c' j e => by rw [r_I e, r_I e]⟩
      · rw [r_two _ _ (by omega) (by omega)]; exact s1
      · rw [r_one _ _ (by omega), r_Ie, r_u]
      · rw [r_two _ _ (by omega) (by omega)]; exact s3
      · rw [r_Ie, r_u]
theorem d_markXQ (s : ax_S) : ∃ u, XSt_paste_25_l151 70000 0 s = some u ∧ (∀ p, p < 16 → (d_bit (s.2.1 25 10) p → u.2.1 33 p = s.2.1 33 p + 1 ∧ u.2.1 34 p = s.2.1 25 5) ∧ (¬ d_bit (s.2.1 25 10) p → u.2.1 33 p = s.2.1 33 p ∧ u.2.1 34 p = s.2.1 34 p)) ∧ ∀ c, c ≠ 33 → c ≠ 34 → u.2.1 c = s.2.1 c := by
  obtain ⟨b, h1, h2, -, h3⟩ := z_for (fun n k (a : ax_S) => XSt_paste_25_l151 n (nI k) a) 16 (fun k a => (∀ p, p < k → (d_bit (s.2.1 25 10) p → a.2.1 33 p = s.2.1 33 p + 1 ∧ a.2.1 34 p = s.2.1 25 5) ∧ (¬ d_bit (s.2.1 25 10) p → a.2.1 33 p = s.2.1 33 p ∧ a.2.1 34 p = s.2.1 34 p)) ∧ (∀ p, k ≤ p → a.2.1 33 p = s.2.1 33 p ∧ a.2.1 34 p = s.2.1 34 p) ∧ ∀ c, c ≠ 33 → c ≠ 34 → a.2.1 c = s.2.1 c) (fun a => (∀ p, p < 16 → (d_bit (s.2.1 25 10) p → a.2.1 33 p = s.2.1 33 p + 1 ∧ a.2.1 34 p = s.2.1 25 5) ∧ (¬ d_bit (s.2.1 25 10) p → a.2.1 33 p = s.2.1 33 p ∧ a.2.1 34 p = s.2.1 34 p)) ∧ (∀ p, 16 ≤ p → a.2.1 33 p = s.2.1 33 p ∧ a.2.1 34 p = s.2.1 34 p) ∧ ∀ c, c ≠ 33 → c ≠ 34 → a.2.1 c = s.2.1 c) (fun n a ha => ⟨a, by
      show XSt_paste_25_l151 (n + 1) (nI 16) a = some a
      rw [XSt_paste_25_l151]
      exact if_pos (by decide), ha⟩) (fun n k a hk ha => by
      obtain ⟨g1, g2, g3⟩ := ha
      by_cases c : d_bit (s.2.1 25 10) k
      · refine Or.inr ⟨ax_sI (ax_sI a 33 k (s.2.1 33 k + 1)) 34 k (s.2.1 25 5), ?_, fun p hp => ?_, fun p hp => ?_, fun c e1 e2 => by rw [r_I e2, r_I e1, g3 c e1 e2]⟩
        · show XSt_paste_25_l151 (n + 1) (nI k) a = XSt_paste_25_l151 n (nI (k + 1)) _
          have c' : ((a.2.1 25 10 >>> (nI k &&& 31)) &&& 1) = 1 := by rw [g3 25 (by omega) (by omega)]; exact c
          rw [XSt_paste_25_l151, if_neg (by rw [q_16, z_le (by omega) (by omega)]; omega), if_pos c']
          simp (disch := omega) only [z_1, z_cl, z_lt0, z_nle, if_false, or_self, g3 25 (by omega) (by omega), (g2 k (Nat.le_refl k)).1]
        · by_cases e : p = k
          · subst e
            rw [r_I (by omega), r_Ie, r_u, r_Ie, r_u]
            exact ⟨fun _ => ⟨rfl, rfl⟩, fun h => absurd c h⟩
          · rw [r_two 33 p (by omega) (by omega), r_two 34 p (by omega) (by omega)]
            exact g1 p (by omega)
        · rw [r_two 33 p (by omega) (by omega), r_two 34 p (by omega) (by omega)]
          exact g2 p (by omega)
      · refine Or.inr ⟨a, ?_, fun p hp => ?_, fun p hp => g2 p (by omega), g3⟩
        · show XSt_paste_25_l151 (n + 1) (nI k) a = XSt_paste_25_l151 n (nI (k + 1)) _
          have c' : ¬ ((a.2.1 25 10 >>> (nI k &&& 31)) &&& 1) = 1 := by rw [g3 25 (by omega) (by omega)]; exact c
          rw [XSt_paste_25_l151, if_neg (by rw [q_16, z_le (by omega) (by omega)]; omega), if_neg c', z_1]
        · by_cases e : p = k
          · subst e
            exact ⟨fun h => absurd h c, fun _ => g2 p (Nat.le_refl p)⟩
          · exact g1 p (by omega)) 70000 0 s (by omega) ⟨fun p hp => absurd hp (Nat.not_lt_zero _), fun _ _ => ⟨rfl, rfl⟩, fun _ _ _ => rfl⟩ (by omega)
  exact ⟨b, h1, h2, h3⟩
theorem d_pasteXQ {s : ax_S} {x y w h σ d : Nat} (hs : ct_st s x y w h) (hw : w ≤ 16) (hh : h ≤ 12) (hz : w * h = 0 → x = 0 ∧ y = 0 ∧ w = 0 ∧ h = 0) (hσ : σ ≤ 1) (hd : d ≤ 9999) (h5 : s.2.1 25 5 = nI d) :
    ∃ u, XSt_paste_25 (nI σ) s = some u ∧ u.2.1 25 5 = nI (d + 1) ∧ u.2.1 25 7 = s.2.1 25 7 + nI (w * h) ∧ u.2.1 25 9 = nI (w * h) ∧ u.2.1 25 10 = d_who (vX s.2.1 27) x y w h ∧
      (∀ j k, j < 30 → k < 6 → u.2.1 35 (6 * j + k) = if j = d % 30 then d_val x y w h (d_who (vX s.2.1 27) x y w h) σ k else s.2.1 35 (6 * j + k)) ∧
      (∀ p, p < 16 → (d_bit (d_who (vX s.2.1 27) x y w h) p → u.2.1 33 p = s.2.1 33 p + 1 ∧ u.2.1 34 p = nI (d + 1)) ∧ (¬ d_bit (d_who (vX s.2.1 27) x y w h) p → u.2.1 33 p = s.2.1 33 p ∧ u.2.1 34 p = s.2.1 34 p)) ∧
      (∀ c j, c ≠ 33 → c ≠ 34 → c ≠ 35 → ¬ (c = 25 ∧ (j = 5 ∨ j = 7 ∨ j = 9 ∨ j = 10)) → u.2.1 c j = s.2.1 c j) := by
  have hwh := ct_mul hw hh
  obtain ⟨s1, s2, s3, s4⟩ := hs
  have hc : XCu_cells s = nI (w * h) := by unfold XCu_cells; rw [s3, s4, pk_mul]
  unfold XSt_paste_25
  rw [hc]
  generalize hS9 : ax_sI (ax_sI s 25 9 (nI (w * h))) 25 7 (s.2.1 25 7 + nI (w * h)) = S9
  have f9 : ∀ c j, ¬ (c = 25 ∧ (j = 9 ∨ j = 7)) → S9.2.1 c j = s.2.1 c j := fun c j e => by rw [← hS9]; exact r_two c j (by omega) (by omega)
  have e9 : S9.2.1 25 9 = nI (w * h) := by rw [← hS9, r_one _ _ (by omega), r_Ie, r_u]
  have e7 : S9.2.1 25 7 = s.2.1 25 7 + nI (w * h) := by rw [← hS9, r_Ie, r_u]
  have hj : XSt_paste_25_j26 (nI σ) (nI (w * h)) S9 = some (d_who (vX s.2.1 27) x y w h) := by
    unfold XSt_paste_25_j26 d_who
    by_cases c : w * h = 0
    · rw [if_pos (by rw [z_eq0 (by omega)]; exact c), if_pos c]
    · rw [if_neg (by rw [z_eq0 (by omega)]; exact c), if_neg c]
      unfold XCu_wholeInCut_26
      rw [X_whole_eqQ, f9 55 1 (by omega), f9 55 2 (by omega), f9 55 3 (by omega), f9 55 4 (by omega), s1, s2, s3, s4]
      have : vX S9.2.1 27 = vX s.2.1 27 := by
        funext k i
        show S9.2.1 (27 + k) i = s.2.1 (27 + k) i
        exact f9 _ _ (by omega)
      rw [this]
  rw [hj]
  generalize d_who (vX s.2.1 27) x y w h = W
  simp only []
  generalize hS10 : ax_sI S9 25 10 W = S10
  have f10 : ∀ c j, ¬ (c = 25 ∧ (j = 9 ∨ j = 7 ∨ j = 10)) → S10.2.1 c j = s.2.1 c j := fun c j e => by rw [← hS10, r_one c j (by omega), f9 c j (by omega)]
  have e910 : S10.2.1 25 9 = nI (w * h) := by rw [← hS10, r_one _ _ (by omega)]; exact e9
  have e710 : S10.2.1 25 7 = s.2.1 25 7 + nI (w * h) := by rw [← hS10, r_one _ _ (by omega)]; exact e7
  have e1010 : S10.2.1 25 10 = W := by rw [← hS10, r_Ie, r_u]
  have hplace : XSt_cutPlace (s.2.1 25 5) S10 = nI (d % 30 * 6) := by
    unfold XSt_cutPlace
    rw [h5, show nI d - nI d / 30 * 30 = nI (d % 30) from z_rem (a := d) (d := 30) (by omega) (by omega) (by omega), q_6, pk_mul]
  rw [hplace]
  have hm : d % 30 < 30 := Nat.mod_lt _ (by omega)
  -- the four parts
  obtain ⟨S11, g1, g2, g3⟩ : ∃ S11, XSt_paste_25_l71 70000 (nI σ) (nI (d % 30 * 6)) 0 S10 = some S11 ∧ (∀ k, k < 4 → S11.2.1 35 (d % 30 * 6 + k) = d_val x y w h W σ k) ∧ ∀ c j, ¬ (c = 35 ∧ d % 30 * 6 ≤ j ∧ j < d % 30 * 6 + 4) → S11.2.1 c j = S10.2.1 c j := by
    obtain ⟨b, h1, h2, h3⟩ := z_for (fun n k (a : ax_S) => XSt_paste_25_l71 n (nI σ) (nI (d % 30 * 6)) (nI k) a) 4 (fun k a => (∀ j, j < k → a.2.1 35 (d % 30 * 6 + j) = d_val x y w h W σ j) ∧ ∀ c j, ¬ (c = 35 ∧ d % 30 * 6 ≤ j ∧ j < d % 30 * 6 + 4) → a.2.1 c j = S10.2.1 c j) (fun a => (∀ j, j < 4 → a.2.1 35 (d % 30 * 6 + j) = d_val x y w h W σ j) ∧ ∀ c j, ¬ (c = 35 ∧ d % 30 * 6 ≤ j ∧ j < d % 30 * 6 + 4) → a.2.1 c j = S10.2.1 c j) (fun n a ha => ⟨a, by
        show XSt_paste_25_l71 (n + 1) (nI σ) (nI (d % 30 * 6)) (nI 4) a = some a
        rw [XSt_paste_25_l71]
        exact if_pos (by decide), ha⟩) (fun n k a hk ha => Or.inr ⟨ax_sI a 35 (d % 30 * 6 + k) (d_val x y w h W σ k), by
        show XSt_paste_25_l71 (n + 1) (nI σ) (nI (d % 30 * 6)) (nI k) a = XSt_paste_25_l71 n (nI σ) (nI (d % 30 * 6)) (nI (k + 1)) _
        have a9 : a.2.1 25 9 = nI (w * h) := by rw [ha.2 _ _ (by omega)]; exact e910
        have a55 : ∀ j, a.2.1 55 j = s.2.1 55 j := fun j => by rw [ha.2 _ _ (by omega), f10 _ _ (by omega)]
        rw [XSt_paste_25_l71, if_neg (by rw [q_4, z_le (by omega) (by omega)]; omega), a9]
        have hv : nI (w * h) = 0 → d_val x y w h W σ k = 0 := fun e => by
          rw [z_eq0 (by omega)] at e
          obtain ⟨rfl, rfl, rfl, rfl⟩ := hz e
          have h : k = 0 ∨ k = 1 ∨ k = 2 ∨ k = 3 := by omega
          rcases h with rfl | rfl | rfl | rfl <;> rfl
        simp (disch := omega) only [nI_add, z_1, z_cl, z_lt0, z_nle, if_false, or_self]
        by_cases c : nI (w * h) = 0
        · rw [if_pos c, hv c]
        · rw [if_neg c]
          have hp : XCu_part (nI k) a = d_val x y w h W σ k := by
            have hcc : XCu_cells a = nI (w * h) := by unfold XCu_cells; rw [a55, a55, s3, s4, pk_mul]
            unfold XCu_part
            rw [hcc, if_neg c, a55, a55, a55, a55, s1, s2, s3, s4]
            have h : k = 0 ∨ k = 1 ∨ k = 2 ∨ k = 3 := by omega
            rcases h with rfl | rfl | rfl | rfl <;> rfl
          rw [hp], by
        refine ⟨fun j hj => ?_, fun c j e => by rw [r_one c j (by omega)]; exact ha.2 c j e⟩
        by_cases e : j = k
        · subst e; rw [r_Ie, r_u]
        · rw [r_one _ _ (by omega)]; exact ha.1 j (by omega)⟩) 70000 0 S10 (by omega) ⟨fun j hj => absurd hj (Nat.not_lt_zero _), fun _ _ _ => rfl⟩ (by omega)
    exact ⟨b, h1, h2, h3⟩
  have hj53 : XSt_paste_25_j53 (nI σ) (nI (d % 30 * 6)) (nI (d % 30 * 6)) S10 = some (ax_sI (ax_sI S11 35 (d % 30 * 6 + 4) W) 35 (d % 30 * 6 + 5) (nI σ)) := by
    unfold XSt_paste_25_j53
    rw [if_neg (nI_pos (by omega)), if_neg (by rw [q_180, q_6, nI_add, z_lt (by omega) (by omega)]; omega), g1]
    have e310 : S11.2.1 25 10 = W := by rw [g3 _ _ (by omega)]; exact e1010
    simp (disch := omega) only [q_4, q_5, nI_add, z_cl, z_lt0, z_nle, if_false, or_self, e310]
    have h : σ = 0 ∨ σ = 1 := by omega
    rcases h with rfl | rfl
    · rw [if_pos (show nI 0 = 0 from rfl)]; rfl
    · rw [if_neg (by decide)]; rfl
  rw [hj53]
  simp only []
  generalize hS12 : ax_sI (ax_sI S11 35 (d % 30 * 6 + 4) W) 35 (d % 30 * 6 + 5) (nI σ) = S12
  have f12 : ∀ c j, c ≠ 35 → S12.2.1 c j = S10.2.1 c j := fun c j e => by rw [← hS12, r_I e, r_I e, g3 c j (by omega)]
  have a12 : ∀ j k, j < 30 → k < 6 → S12.2.1 35 (6 * j + k) = if j = d % 30 then d_val x y w h W σ k else s.2.1 35 (6 * j + k) := fun j k hj hk => by
    rw [← hS12]
    by_cases e : j = d % 30
    · rw [if_pos e]
      subst e
      by_cases k5 : k = 5
      · subst k5; rw [show 6 * (d % 30) + 5 = d % 30 * 6 + 5 by omega, r_Ie, r_u]; rfl
      · by_cases k4 : k = 4
        · subst k4; rw [show 6 * (d % 30) + 4 = d % 30 * 6 + 4 by omega, r_one _ _ (by omega), r_Ie, r_u]; rfl
        · rw [r_two _ _ (by omega) (by omega), show 6 * (d % 30) + k = d % 30 * 6 + k by omega, g2 k (by omega)]
    · rw [if_neg e, r_two _ _ (by omega) (by omega), g3 _ _ (by omega), f10 _ _ (by omega)]
  have b5 : S12.2.1 25 5 = nI d := by rw [f12 _ _ (by omega), f10 _ _ (by omega)]; exact h5
  rw [b5, z_1]
  obtain ⟨u, m1, m2, m3⟩ := d_markXQ (ax_sI S12 25 5 (nI (d + 1)))
  rw [m1]
  have k3 : ∀ j, j ≠ 5 → u.2.1 25 j = S10.2.1 25 j := fun j e => by rw [m3 25 (by omega) (by omega), r_one _ _ (by omega), f12 _ _ (by omega)]
  have e10' : (ax_sI S12 25 5 (nI (d + 1))).2.1 25 10 = W := by rw [r_one _ _ (by omega), f12 _ _ (by omega)]; exact e1010
  refine ⟨u, rfl, ?_, by rw [k3 7 (by omega)]; exact e710, by rw [k3 9 (by omega)]; exact e910, by rw [k3 10 (by omega)]; exact e1010, fun j k hj hk => ?_, fun p hp => ?_, fun c j e1 e2 e3 e4 => ?_⟩
  · rw [m3 25 (by omega) (by omega), r_Ie, r_u]
  · rw [m3 35 (by omega) (by omega), r_I (by omega)]; exact a12 j k hj hk
  · have := m2 p hp
    rw [e10', r_I (c := 33) (by omega), r_I (c := 34) (by omega), r_Ie, r_u, f12 33 p (by omega), f12 34 p (by omega), f10 33 p (by omega), f10 34 p (by omega)] at this
    exact this
  · rw [m3 c e1 e2, r_one c j (by omega), f12 c j e3, f10 c j (by omega)]
def d_D3Q (f : Nat → Nat → Int32) (bnd : Int32) (s t : ax_S) : Prop := d_W3Q f s t ∧ (∀ j w, j < 30 → w < 6 → s.2.1 35 (6 * j + w) = t.2.1 64 (108 + 30 * w + j)) ∧ (∃ d x : Nat, d ≤ 9999 ∧ x ≤ 65535 ∧ s.2.1 25 5 = nI d ∧ t.2.1 64 289 = nI d ∧ t.2.1 64 288 = nI d ∧ s.2.1 25 6 = nI x ∧ t.2.1 64 290 = nI x) ∧ s.2.1 25 7 = t.2.1 63 33 ∧ s.2.1 25 8 = t.2.1 63 34 ∧ s.2.1 25 9 = t.2.1 63 35 ∧ s.2.1 25 10 = t.2.1 63 36 ∧ t.2.1 63 3 = bnd
theorem d_W3_frQ {f : Nat → Nat → Int32} {s t s2 t2 : ax_S} (h : d_W3Q f s t) (a : ∀ c j, (27 ≤ c ∧ c ≤ 34) ∨ (37 ≤ c ∧ c ≤ 42) ∨ (c = 36 ∧ (j = 7 ∨ j = 8)) → s2.2.1 c j = s.2.1 c j) (b : ∀ c j, (c = 64 ∧ j < 108) ∨ (74 ≤ c ∧ c ≤ 78) ∨ (c = 63 ∧ j = 14) → t2.2.1 c j = t.2.1 c j) : d_W3Q f s2 t2 := by
  refine ⟨fun i hi => ?_, fun p hp => ?_, fun c j hc => by rw [a c j (by omega)]; exact h.2.2.1 c j hc, fun c j hc => by rw [b c j (by omega)]; exact h.2.2.2 c j hc⟩
  · have h9 := h.1 i hi
    simp only [v_ok, vX, vM] at h9 ⊢
    rw [a (27 + 0) i (by omega), a (27 + 1) i (by omega), a (27 + 2) i (by omega), a (27 + 3) i (by omega), a (27 + 4) i (by omega), b 64 (12 * 0 + i) (by omega), b 64 (12 * 1 + i) (by omega), b 64 (12 * 2 + i) (by omega), b 64 (12 * 3 + i) (by omega), b 64 (12 * 4 + i) (by omega)]
    exact h9
  · rw [a 32 p (by omega), a 33 p (by omega), a 34 p (by omega), b 64 (60 + p) (by omega), b 64 (76 + p) (by omega), b 64 (92 + p) (by omega)]
    exact h.2.1 p hp
theorem d_day3Q {f : Nat → Nat → Int32} (hL : y_law f) {bnd : Int32} {s t : ax_S} (h : d_D3Q f bnd s t) (hlt : ¬ 9999 ≤ s.2.1 25 5) :
    ∃ s' t', (∀ n x1 x5, ¬ x1 ≤ x5 → XSt_live_25_36_l23 (n + 1) x1 bnd x5 s = XSt_live_25_36_l23 n x1 bnd (x5 + 1) s') ∧ M_dayGoes t = some t' ∧ d_D3Q f bnd s' t' ∧
      (∀ c j, ¬ (32 ≤ c ∧ c ≤ 35) → c ≠ 55 → c ≠ 56 → ¬ (c = 36 ∧ 9 ≤ j ∧ j ≤ 14) → ¬ (c = 25 ∧ 5 ≤ j ∧ j ≤ 10) → s'.2.1 c j = s.2.1 c j) ∧ (∀ c j, c ≠ 64 → c ≠ 79 → c ≠ 80 → ¬ (c = 63 ∧ 29 ≤ j ∧ j ≤ 36) → t'.2.1 c j = t.2.1 c j) := by
  obtain ⟨hW, hA, ⟨d, x, hd, hx, h5, h289, h288, h6, h290⟩, t7, t8, t9, t10, hb⟩ := h
  have hd2 : d < 9999 := by
    rw [h5, q_9999, z_le (by omega) (by omega)] at hlt
    omega
  have e100 : nI d - nI d / 100 * 100 = nI (d % 100) := z_rem (a := d) (d := 100) (by omega) (by omega) (by omega)
  -- the pains
  generalize hS0 : XLa_setDay_36 (nI (d % 100)) s = S0
  have f0 : ∀ c j, ¬ (c = 36 ∧ j = 13) → S0.2.1 c j = s.2.1 c j := fun c j e => by rw [← hS0]; unfold XLa_setDay_36; exact r_one c j e
  have e013 : S0.2.1 36 13 = nI (d % 100) := by rw [← hS0]; unfold XLa_setDay_36; rw [r_Ie, r_u]
  have hW0 : d_W3Q f S0 t := d_W3_frQ hW (fun c j e => f0 c j (by omega)) (fun _ _ _ => rfl)
  obtain ⟨s1, u6, a1, a2, a3, a4, a5, a6⟩ := d_pain3Q hL hd 16 0 S0 t (by omega) hW0 (by rw [f0 _ _ (by omega)]; exact h5) h289 e013 70000 70000 (by omega) (by omega)
  have a1 : XSt_changePain_25_36_l2 70000 0 S0 = some s1 := a1
  have a2 : M_dayGoes_l4 70000 0 0 t = some u6 := a2
  have s1_5 : s1.2.1 25 5 = nI d := by rw [a5 _ _ (by omega) (by omega), f0 _ _ (by omega)]; exact h5
  have u6_289 : u6.2.1 64 289 = nI d := by rw [a6 _ _ (by omega) (by omega) (by omega)]; exact h289
  have u6_3 : u6.2.1 63 3 = bnd := by rw [a6 _ _ (by omega) (by omega) (by omega)]; exact hb
  -- the set
  obtain ⟨xa, s4, u11, b1, b2, b3, b4, b5, b6, b7⟩ := d_set3Q hL hd (fun p => u6.2.1 64 (60 + p)) bnd 16 0 s1 u6 0 (by omega) a3 s1_5 u6_289 a4 (fun _ _ => rfl) u6_3 (by omega) 70000 70000 (by omega) (by omega)
  have b1 : XSt_leftOut_25_36_l4 70000 0 0 s1 = some (nI xa, s4) := b1
  have hz0 : z_or (g_A (fun p => u6.2.1 64 (60 + p)) bnd) 0 ||| nI 0 = 0 := by
    show (0 : Int32) ||| 0 = 0
    decide
  rw [hz0] at b2
  have b2 : M_dayGoes_l74 70000 0 0 u6 = some (z_or (g_A (fun p => u6.2.1 64 (60 + p)) bnd) 16 ||| nI xa, u11) := b2
  have hset : z_or (g_A (s1.2.1 32) bnd) 16 = z_or (g_A (fun p => u6.2.1 64 (60 + p)) bnd) 16 := z_or_congr 16 fun i hi => by unfold g_A; rw [(a3.2.1 i hi).1]
  obtain ⟨m, hm1, hm2, -⟩ := g_An (fun p => u6.2.1 64 (60 + p)) bnd
  have hP : m ||| xa < 65536 := x_orlt hm1 b3
  rw [hm2, x_or] at b2
  -- the cut
  have hR : v_R (vX s4.2.1 27) (vM u11.2.1 64) := b4.1
  obtain ⟨s5, x0, y0, w0, h0, c1, c2, c3, c4⟩ := X_cut_eqQ (v_at_vX s4.2.1 27) (v_R_valX hR) hP
  obtain ⟨u12, x', y', w', h', g1, g2, g3, g4⟩ := M_cut_eq (v_aM_vM u11.2.1) (v_R_val hR) hP
  have hoc : v_oc (vX s4.2.1 27) (m ||| xa) 0 = v_oc (vM u11.2.1 64) (m ||| xa) 0 := funext fun a => funext fun b => propext (v_R_oc hR _ 0 a b)
  rw [hoc] at c3
  obtain ⟨rfl, rfl, rfl, rfl⟩ := ct_uniq c3 g3
  obtain ⟨bx, by0, bw, bh, -⟩ := ct_bnd c3.1
  have hW5 : d_W3Q f s5 u12 := d_W3_frQ b4 (fun c j e => by rw [c4 c (by omega) (by omega)]) (fun c j e => g4 c j (by omega))
  -- the slip
  have s5_36 : s5.2.1 36 13 = nI (d % 100) := by rw [c4 36 (by omega) (by omega)]; exact b5
  have s5s : ∀ j, s5.2.1 25 j = s.2.1 25 j := fun j => by rw [c4 25 (by omega) (by omega), b6 25 j (by omega), a5 25 j (by omega) (by omega), f0 25 j (by omega)]
  have u12t : ∀ j, ¬ (60 ≤ j ∧ j < 76) → u12.2.1 64 j = t.2.1 64 j := fun j e => by rw [g4 64 j (by omega), b7 64 (by omega) (by omega), a6 64 j (by omega) (by omega) (by omega)]
  obtain ⟨σ, s7, u13, v14, u15, hσ, i1, i2, i3, i4, i5, i6, i7, i8, i9⟩ := d_slip3Q hL hW5.2.2.1 hW5.2.2.2 hd hx (by rw [s5s]; exact h6) (by rw [u12t _ (by omega)]; exact h290) (by rw [u12t _ (by omega)]; exact h289) s5_36
  -- the top row
  have hct7 : ct_st s7 x0 y0 w0 h0 := ⟨by rw [i4 _ _ (by omega) (by omega)]; exact c2.1, by rw [i4 _ _ (by omega) (by omega)]; exact c2.2.1, by rw [i4 _ _ (by omega) (by omega)]; exact c2.2.2.1, by rw [i4 _ _ (by omega) (by omega)]; exact c2.2.2.2⟩
  have hl := d_loseXQ hct7 (by omega) (by omega) hσ 0 0 0
  generalize hS8 : XSt_live_25_36_j84 0 0 0 (nI σ) (nI σ) s7 = s8 at hl
  have hlX := hl.1
  have hlX2 := hl.2
  have e290 : u15.2.1 64 290 = nI x := by rw [i8 64 (by omega) (by omega), u12t _ (by omega)]; exact h290
  obtain ⟨-, sd2⟩ := d_seed x hx
  generalize hU16 : ax_sI u15 64 290 (nI ((25173 * x + 13849) % 65536)) = u16
  have f16 : ∀ c j, ¬ (c = 64 ∧ j = 290) → u16.2.1 c j = u15.2.1 c j := fun c j e => by rw [← hU16]; exact r_one c j e
  have hct16 : ct_sM u16 x0 y0 w0 h0 := ⟨by rw [f16 _ _ (by omega), i8 _ (by omega) (by omega)]; exact g2.1, by rw [f16 _ _ (by omega), i8 _ (by omega) (by omega)]; exact g2.2.1, by rw [f16 _ _ (by omega), i8 _ (by omega) (by omega)]; exact g2.2.2.1, by rw [f16 _ _ (by omega), i8 _ (by omega) (by omega)]; exact g2.2.2.2⟩
  obtain ⟨u17, l1, l2, l3⟩ := d_loseM hct16 (by omega) (by omega) hσ (nI σ)
  -- the cut behind the slip
  have hvr : (x0 = 0 ∧ d_y σ y0 h0 = 0 ∧ w0 = 0 ∧ d_h σ h0 = 0) ∨ (1 ≤ w0 ∧ 1 ≤ d_h σ h0 ∧ w0 ≤ 16 ∧ d_h σ h0 ≤ 12) := by
    unfold d_y d_h
    rcases c3.1 with ⟨r1, r2, r3, r4⟩ | ⟨⟨r1, r2, r3, r4⟩, -⟩
    · refine Or.inl ⟨r1, ?_, r3, ?_⟩
      · rw [if_neg (by omega)]; exact r2
      · rw [if_neg (by omega)]; exact r4
    · refine Or.inr ⟨r1, ?_, by omega, ?_⟩
      · split <;> omega
      · split <;> omega
  generalize d_y σ y0 h0 = y1 at hlX l2 hvr
  generalize d_h σ h0 = h1 at hlX l2 hvr
  have hz : w0 * h1 = 0 → x0 = 0 ∧ y1 = 0 ∧ w0 = 0 ∧ h1 = 0 := fun e => by
    rcases hvr with r | ⟨r1, r2, -, -⟩
    · exact r
    · have := ct_pos r1 r2; omega
  have hw16 : w0 ≤ 16 := bw
  have hh12 : h1 ≤ 12 := by rcases hvr with r | r <;> omega
  have hwz : (w0 * h1 = 0) ↔ w0 = 0 := ⟨fun e => (hz e).2.2.1, fun e => by rw [e, Nat.zero_mul]⟩
  have s8s : ∀ c j, c ≠ 55 → ¬ (c = 25 ∧ (j = 6 ∨ j = 8)) → ¬ (c = 36 ∧ 9 ≤ j ∧ j ≤ 14) → s8.2.1 c j = s5.2.1 c j := fun c j e1 e2 e3 => by rw [hlX2 c j e1, i4 c j e2 e3]
  have u17t : ∀ c j, ¬ (c = 64 ∧ j = 290) → c ≠ 79 → c ≠ 80 → ¬ (c = 63 ∧ 29 ≤ j ∧ j ≤ 32) → u17.2.1 c j = u12.2.1 c j := fun c j e1 e2 e3 e4 => by rw [l3 c j e4, f16 c j e1, i8 c e2 e3]
  have hW8 : d_W3Q f s8 u17 := d_W3_frQ hW5 (fun c j e => s8s c j (by omega) (by omega) (by omega)) (fun c j e => u17t c j (by omega) (by omega) (by omega) (by omega))
  have hwho : d_who (vX s8.2.1 27) x0 y1 w0 h1 = d_who (vM u17.2.1 64) x0 y1 w0 h1 := by
    unfold d_who
    rw [c_W hW8.1]
  have hj264 : M_dayGoes_j264 (nI σ) (u17.2.1 63 31) u17 = some (d_who (vM u17.2.1 64) x0 y1 w0 h1) := by
    unfold M_dayGoes_j264 d_who
    rw [l2.2.2.1]
    by_cases c : w0 = 0
    · rw [if_pos (by rw [z_eq0 (by omega)]; exact c), if_pos (hwz.mpr c)]
    · rw [if_neg (by rw [z_eq0 (by omega)]; exact c), if_neg (fun e => c (hwz.mp e)), M_whole_eq, l2.1, l2.2.1, l2.2.2.2]
  obtain ⟨s9, p1, p2, p3, p4, p5, p6, p7, p8⟩ := d_pasteXQ hlX hw16 hh12 hz hσ hd (by rw [s8s _ _ (by omega) (by omega) (by omega), s5s]; exact h5)
  rw [hwho] at p5 p6 p7
  generalize hWW : d_who (vM u17.2.1 64) x0 y1 w0 h1 = WW at p5 p6 p7 hj264
  obtain ⟨u20, q1, q2, q3, q4, q5⟩ := d_remM (σ := σ) WW l2 hd (by rw [u17t _ _ (by omega) (by omega) (by omega) (by omega), u12t _ (by omega)]; exact h288)
  obtain ⟨u21, r1, r2, r3, r4⟩ := d_markM WW (nI σ) u20
  have u21_63 : ∀ j, u21.2.1 63 j = u17.2.1 63 j := fun j => by rw [r4 63 (by omega), q5 63 (by omega)]
  generalize hT : ax_sI (ax_sI (ax_sI (ax_sI (ax_sI u21 63 34 (u21.2.1 63 34 + nI σ)) 63 35 (u21.2.1 63 31 * u21.2.1 63 32)) 63 36 WW) 63 33 (u21.2.1 63 33 + u21.2.1 63 31 * u21.2.1 63 32)) 64 289 (u21.2.1 64 289 + 1) = tF
  have F : ∀ c j, ¬ (c = 63 ∧ 33 ≤ j ∧ j ≤ 36) → ¬ (c = 64 ∧ j = 289) → tF.2.1 c j = u21.2.1 c j := fun c j e1 e2 => by rw [← hT, r_one c j e2, r_two c j (by omega) (by omega), r_two c j (by omega) (by omega)]
  have hcl : u21.2.1 63 31 * u21.2.1 63 32 = nI (w0 * h1) := by rw [u21_63, u21_63, l2.2.2.1, l2.2.2.2, pk_mul]
  have u12m : ∀ c j, c ≠ 64 → c ≠ 79 → c ≠ 80 → ¬ (c = 63 ∧ 29 ≤ j ∧ j ≤ 32) → u12.2.1 c j = t.2.1 c j := fun c j e1 e2 e3 e4 => by rw [g4 c j e4, b7 c e2 e3, a6 c j e2 e3 (by omega)]
  have u17m : ∀ c j, c ≠ 64 → c ≠ 79 → c ≠ 80 → ¬ (c = 63 ∧ 29 ≤ j ∧ j ≤ 32) → u17.2.1 c j = t.2.1 c j := fun c j e1 e2 e3 e4 => by rw [u17t c j (by omega) e2 e3 e4, u12m c j e1 e2 e3 e4]
  have F33 : tF.2.1 63 33 = t.2.1 63 33 + nI (w0 * h1) := by
    rw [← hT, r_I (by omega), r_Ie, r_u, hcl, u21_63, u17m _ _ (by omega) (by omega) (by omega) (by omega)]
  have F34 : tF.2.1 63 34 = t.2.1 63 34 + nI σ := by
    rw [← hT, r_I (by omega)]
    simp (disch := omega) only [r_Ie, r_un, r_u]
    rw [u21_63, u17m _ _ (by omega) (by omega) (by omega) (by omega)]
  have F35 : tF.2.1 63 35 = nI (w0 * h1) := by
    rw [← hT, r_I (by omega)]
    simp (disch := omega) only [r_Ie, r_un, r_u]
    exact hcl
  have F36 : tF.2.1 63 36 = WW := by
    rw [← hT, r_I (by omega)]
    simp (disch := omega) only [r_Ie, r_un, r_u]
  have F289 : tF.2.1 64 289 = nI (d + 1) := by
    rw [← hT, r_Ie, r_u, r3 _ (by omega), q4 _ (by omega), u17t _ _ (by omega) (by omega) (by omega) (by omega), u12t _ (by omega), h289, z_1]
  have q290 : u17.2.1 64 290 = nI ((25173 * x + 13849) % 65536) := by
    rw [l3 _ _ (by omega), ← hU16, r_Ie, r_u]
  refine ⟨s9, tF, fun n x1 x5 hx15 => ?_, ?_, ⟨?_, fun j k hj hk => ?_, ⟨d + 1, (25173 * x + 13849) % 65536, by omega, by omega, p2, F289, ?_, ?_, ?_⟩, ?_, ?_, ?_, ?_, ?_⟩, fun c j e1 e2 e3 e4 e5 => ?_, fun c j e1 e2 e3 e4 => ?_⟩
  · rw [XSt_live_25_36_l23, if_neg hx15, if_neg hlt, h5, e100, hS0]
    unfold XSt_changePain_25_36 XSt_leftOut_25_36
    rw [a1]
    simp only [XSt_painfulAbove_25_eq, b1, hset, hm2, x_or, c1, i1]
    have hj : XSt_live_25_36_j84 x1 bnd x5 (nI σ) (nI σ) s7 = s8 := hS8
    simp only [hj, p1]
  · unfold M_dayGoes
    rw [a2]
    simp only [b2, g1, i5, i6, e100, i7, e290, sd2, hU16, i9, l1, hj264, q1, r1]
    exact congrArg some hT
  · refine ⟨fun i hi => ?_, fun p hp => ?_, fun c j hc => by rw [p8 c j (by omega) (by omega) (by omega) (by omega)]; exact hW8.2.2.1 c j hc, fun c j hc => by rw [F c j (by omega) (by omega), r4 c (by omega), q5 c (by omega)]; exact hW8.2.2.2 c j hc⟩
    · have h9 := hW8.1 i hi
      have a : ∀ k, k < 5 → s9.2.1 (27 + k) i = s8.2.1 (27 + k) i := fun k hk => p8 _ _ (by omega) (by omega) (by omega) (by omega)
      have b : ∀ j, j < 60 → tF.2.1 64 j = u17.2.1 64 j := fun j hj => by rw [F _ _ (by omega) (by omega), r3 _ (by omega), q4 _ (by omega)]
      simp only [v_ok, vX, vM] at h9 ⊢
      rw [a 0 (by omega), a 1 (by omega), a 2 (by omega), a 3 (by omega), a 4 (by omega), b _ (by omega), b (12 * 1 + i) (by omega), b (12 * 2 + i) (by omega), b (12 * 3 + i) (by omega), b (12 * 4 + i) (by omega)]
      exact h9
    · obtain ⟨y1, y2, y3, y4⟩ := hW8.2.1 p hp
      rw [p8 32 p (by omega) (by omega) (by omega) (by omega), F 64 (60 + p) (by omega) (by omega), F 64 (76 + p) (by omega) (by omega), F 64 (92 + p) (by omega) (by omega), r3 (60 + p) (by omega), q4 (60 + p) (by omega)]
      refine ⟨y1, y2, ?_⟩
      have o1 : u20.2.1 64 (76 + p) = u17.2.1 64 (76 + p) := q4 _ (by omega)
      have o2 : u20.2.1 64 (92 + p) = u17.2.1 64 (92 + p) := q4 _ (by omega)
      have o3 : u20.2.1 64 289 = nI d := by rw [q4 _ (by omega), u17t _ _ (by omega) (by omega) (by omega) (by omega), u12t _ (by omega)]; exact h289
      by_cases c : d_bit WW p
      · obtain ⟨m1, m2⟩ := (p7 p hp).1 c
        obtain ⟨m3, m4⟩ := (r2 p hp).1 c
        rw [m1, m2, m3, m4, o1, o3, y3, z_1]
        exact ⟨rfl, rfl⟩
      · obtain ⟨m1, m2⟩ := (p7 p hp).2 c
        obtain ⟨m3, m4⟩ := (r2 p hp).2 c
        rw [m1, m2, m3, m4, o1, o2]
        exact ⟨y3, y4⟩
  · rw [p6 j k hj hk, F _ _ (by omega) (by omega), r3 _ (by omega), q3 j k hj hk]
    by_cases c : j = d % 30
    · rw [if_pos c, if_pos c]
    · rw [if_neg c, if_neg c, s8s _ _ (by omega) (by omega) (by omega), c4 35 (by omega) (by omega), b6 35 _ (by omega), a5 35 _ (by omega) (by omega), f0 35 _ (by omega), u17t _ _ (by omega) (by omega) (by omega) (by omega), u12t _ (by omega)]
      exact hA j k hj hk
  · rw [F _ _ (by omega) (by omega), r3 _ (by omega)]; exact q2
  · rw [p8 25 6 (by omega) (by omega) (by omega) (by omega), hlX2 25 6 (by omega)]; exact i2
  · rw [F _ _ (by omega) (by omega), r3 _ (by omega), q4 _ (by omega)]; exact q290
  · rw [p3, F33, s8s _ _ (by omega) (by omega) (by omega), s5s, t7]
  · rw [F34, p8 25 8 (by omega) (by omega) (by omega) (by omega), hlX2 25 8 (by omega)]
    rw [s5s] at i3
    rw [i3, t8]
  · rw [p4, F35]
  · rw [p5, F36]
  · rw [F _ _ (by omega) (by omega), u21_63, u17m _ _ (by omega) (by omega) (by omega) (by omega)]; exact hb
  · rw [p8 c j (by omega) (by omega) (by omega) (by omega), s8s c j e2 (by omega) e4, c4 c e2 e3, b6 c j e4, a5 c j e4 (by omega), f0 c j (by omega)]
  · rw [F c j (by omega) (by omega), r4 c e1, q5 c e1, u17m c j e1 e2 e3 (by omega)]
theorem d_days3Q {f : Nat → Nat → Int32} (hL : y_law f) {bnd : Int32} {N : Nat} (hN : N ≤ 30) : ∀ k j s t, j + k = N → d_D3Q f bnd s t → ∀ m1 m2, k < m1 → k < m2 →
    ∃ s' t', XSt_live_25_36_l23 m1 (nI N) bnd (nI j) s = some s' ∧ M_daysGo_l22 m2 (nI N) (nI j) t = some t' ∧ d_D3Q f bnd s' t' ∧
      (∀ c j, ¬ (32 ≤ c ∧ c ≤ 35) → c ≠ 55 → c ≠ 56 → ¬ (c = 36 ∧ 9 ≤ j ∧ j ≤ 14) → ¬ (c = 25 ∧ 5 ≤ j ∧ j ≤ 10) → s'.2.1 c j = s.2.1 c j) ∧ (∀ c j, c ≠ 64 → c ≠ 79 → c ≠ 80 → ¬ (c = 63 ∧ 29 ≤ j ∧ j ≤ 36) → t'.2.1 c j = t.2.1 c j) := by
  intro k
  induction k with
  | zero =>
    intro j s t hj h m1 m2 hm1 hm2
    obtain rfl : j = N := by omega
    obtain ⟨m1, rfl⟩ : ∃ m, m1 = m + 1 := ⟨m1 - 1, by omega⟩
    obtain ⟨m2, rfl⟩ : ∃ m, m2 = m + 1 := ⟨m2 - 1, by omega⟩
    have c : nI j ≤ nI j := by rw [z_le (by omega) (by omega)]; omega
    exact ⟨s, t, by rw [XSt_live_25_36_l23]; exact if_pos c, by rw [M_daysGo_l22]; exact if_pos c, h, fun _ _ _ _ _ _ _ => rfl, fun _ _ _ _ _ _ => rfl⟩
  | succ k ih =>
    intro j s t hj h m1 m2 hm1 hm2
    obtain ⟨m1, rfl⟩ : ∃ m, m1 = m + 1 := ⟨m1 - 1, by omega⟩
    obtain ⟨m2, rfl⟩ : ∃ m, m2 = m + 1 := ⟨m2 - 1, by omega⟩
    have c : ¬ nI N ≤ nI j := by rw [z_le (by omega) (by omega)]; omega
    have e : t.2.1 64 289 = s.2.1 25 5 := by
      obtain ⟨d, x, -, -, h1, h2, -⟩ := h.2.2.1
      rw [h1, h2]
    by_cases c2 : 9999 ≤ s.2.1 25 5
    · exact ⟨s, t, by rw [XSt_live_25_36_l23, if_neg c, if_pos c2], by rw [M_daysGo_l22, if_neg c, if_pos (by rw [e]; exact c2)], h, fun _ _ _ _ _ _ _ => rfl, fun _ _ _ _ _ _ => rfl⟩
    · obtain ⟨s1, t1, a1, a2, a3, a4, a5⟩ := d_day3Q hL h c2
      obtain ⟨s2, t2, b1, b2, b3, b4, b5⟩ := ih (j + 1) s1 t1 (by omega) a3 m1 m2 (by omega) (by omega)
      refine ⟨s2, t2, ?_, ?_, b3, fun c j e1 e2 e3 e4 e5 => by rw [b4 c j e1 e2 e3 e4 e5, a4 c j e1 e2 e3 e4 e5], fun c j e1 e2 e3 e4 => by rw [b5 c j e1 e2 e3 e4, a5 c j e1 e2 e3 e4]⟩
      · rw [a1 m1 (nI N) (nI j) c, z_1]; exact b1
      · rw [M_daysGo_l22, if_neg c, if_neg (by rw [e]; exact c2), a2, z_1]; exact b2
def d_0XQ (s : ax_S) : ax_S := ax_sI (ax_sI (ax_sI (ax_sI s 25 7 0) 25 8 0) 25 9 0) 25 10 0
theorem d_0XfQ (s : ax_S) : (∀ c j, ¬ (c = 25 ∧ 7 ≤ j ∧ j ≤ 10) → (d_0XQ s).2.1 c j = s.2.1 c j) ∧ (d_0XQ s).2.1 25 7 = 0 ∧ (d_0XQ s).2.1 25 8 = 0 ∧ (d_0XQ s).2.1 25 9 = 0 ∧ (d_0XQ s).2.1 25 10 = 0 := by
  unfold d_0XQ
  refine ⟨fun c j e => by rw [r_two c j (by omega) (by omega), r_two c j (by omega) (by omega)], ?_, ?_, ?_, ?_⟩
  all_goals simp (disch := omega) only [r_Ie, r_un, r_u]
