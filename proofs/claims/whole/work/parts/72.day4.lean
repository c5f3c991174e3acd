/-! a day: the top row lost, the album, the marks -/
def d_y (σ y h : Nat) : Nat := if σ = 1 ∧ ¬ h ≤ 1 then y + 1 else y
def d_h (σ h : Nat) : Nat := if σ = 1 ∧ ¬ h ≤ 1 then h - 1 else h
theorem d_loseX {s : ax_S} {x y w h σ : Nat} (hs : ct_st s x y w h) (hy : y ≤ 100) (hh : h ≤ 100) (hσ : σ ≤ 1) (a b c : Int32) : ct_st (XSt_live_3_36_j84 a b c (nI σ) (nI σ) s) x (d_y σ y h) w (d_h σ h) ∧ ∀ c' j, c' ≠ 55 → (XSt_live_3_36_j84 a b c (nI σ) (nI σ) s).2.1 c' j = s.2.1 c' j := by
  unfold XSt_live_3_36_j84 d_y d_h
  by_cases h0 : σ = 0
  · subst h0
    rw [if_pos (show nI 0 = 0 from rfl), if_neg (by omega), if_neg (by omega)]
    exact ⟨hs, fun _ _ _ => rfl⟩
  · obtain rfl : σ = 1 := by omega
    rw [if_neg (show ¬ nI 1 = 0 by decide)]
    unfold XCu_loseTopRow
    obtain ⟨s1, s2, s3, s4⟩ := hs
    rw [s4, s2]
    by_cases c1 : h ≤ 1
    · rw [if_pos (by rw [q_1, z_le (by omega) (by omega)]; exact c1), if_neg (by omega), if_neg (by omega)]
      exact ⟨⟨s1, s2, s3, s4⟩, fun _ _ _ => rfl⟩
    · rw [if_neg (by rw [q_1, z_le (by omega) (by omega)]; exact c1), if_pos ⟨rfl, c1⟩, if_pos ⟨rfl, c1⟩, show nI h - 1 = nI (h - 1) from z_sub (a := h) (b := 1) (by omega), z_1]
      refine ⟨⟨?_, ?_, ?_, ?_⟩, fun c' j e => by rw [r_I e, r_I e]⟩
      · rw [r_two _ _ (by omega) (by omega)]; exact s1
      · rw [r_one _ _ (by omega), r_Ie, r_u]
      · rw [r_two _ _ (by omega) (by omega)]; exact s3
      · rw [r_Ie, r_u]
theorem d_loseM {t : ax_S} {x y w h σ : Nat} (ht : ct_sM t x y w h) (hy : y ≤ 100) (hh : h ≤ 100) (hσ : σ ≤ 1) (a : Int32) : ∃ u, M_dayGoes_j225 a (nI σ) t = some u ∧ ct_sM u x (d_y σ y h) w (d_h σ h) ∧ ct_fM t u := by
  unfold M_dayGoes_j225 d_y d_h
  by_cases h0 : σ = 0
  · subst h0
    rw [if_neg (show ¬ nI 0 = 1 by decide), if_neg (by omega), if_neg (by omega)]
    exact ⟨t, rfl, ht, fun _ _ _ => rfl⟩
  · obtain rfl : σ = 1 := by omega
    rw [if_pos (show nI 1 = 1 from rfl)]
    obtain ⟨s1, s2, s3, s4⟩ := ht
    rw [s4, s2, s1, s3]
    by_cases c1 : h ≤ 1
    · rw [if_pos (by rw [q_1, z_le (by omega) (by omega)]; exact c1), if_neg (by omega), if_neg (by omega)]
      exact ⟨t, rfl, ⟨s1, s2, s3, s4⟩, fun _ _ _ => rfl⟩
    · rw [if_neg (by rw [q_1, z_le (by omega) (by omega)]; exact c1), if_pos ⟨rfl, c1⟩, if_pos ⟨rfl, c1⟩, show nI h - 1 = nI (h - 1) from z_sub (a := h) (b := 1) (by omega), z_1]
      obtain ⟨p1, p2⟩ := ct_lay x (y + 1) w (h - 1) t
      exact ⟨_, rfl, p1, p2⟩
/-- the marks of those pasted whole: both loops -/
def d_bit (v : Int32) (p : Nat) : Prop := ((v >>> (nI p &&& 31)) &&& 1) = 1
theorem d_markX (s : ax_S) : ∃ u, XSt_paste_3_l151 70000 0 s = some u ∧ (∀ p, p < 16 → (d_bit (s.2.1 3 10) p → u.2.1 11 p = s.2.1 11 p + 1 ∧ u.2.1 12 p = s.2.1 3 5) ∧ (¬ d_bit (s.2.1 3 10) p → u.2.1 11 p = s.2.1 11 p ∧ u.2.1 12 p = s.2.1 12 p)) ∧ ∀ c, c ≠ 11 → c ≠ 12 → u.2.1 c = s.2.1 c := by
  obtain ⟨b, h1, h2, -, h3⟩ := z_for (fun n k (a : ax_S) => XSt_paste_3_l151 n (nI k) a) 16 (fun k a => (∀ p, p < k → (d_bit (s.2.1 3 10) p → a.2.1 11 p = s.2.1 11 p + 1 ∧ a.2.1 12 p = s.2.1 3 5) ∧ (¬ d_bit (s.2.1 3 10) p → a.2.1 11 p = s.2.1 11 p ∧ a.2.1 12 p = s.2.1 12 p)) ∧ (∀ p, k ≤ p → a.2.1 11 p = s.2.1 11 p ∧ a.2.1 12 p = s.2.1 12 p) ∧ ∀ c, c ≠ 11 → c ≠ 12 → a.2.1 c = s.2.1 c) (fun a => (∀ p, p < 16 → (d_bit (s.2.1 3 10) p → a.2.1 11 p = s.2.1 11 p + 1 ∧ a.2.1 12 p = s.2.1 3 5) ∧ (¬ d_bit (s.2.1 3 10) p → a.2.1 11 p = s.2.1 11 p ∧ a.2.1 12 p = s.2.1 12 p)) ∧ (∀ p, 16 ≤ p → a.2.1 11 p = s.2.1 11 p ∧ a.2.1 12 p = s.2.1 12 p) ∧ ∀ c, c ≠ 11 → c ≠ 12 → a.2.1 c = s.2.1 c) (fun n a ha => ⟨a, by
      show XSt_paste_3_l151 (n + 1) (nI 16) a = some a
      rw [XSt_paste_3_l151]
      exact if_pos (by decide), ha⟩) (fun n k a hk ha => by
      obtain ⟨g1, g2, g3⟩ := ha
      by_cases c : d_bit (s.2.1 3 10) k
      · refine Or.inr ⟨ax_sI (ax_sI a 11 k (s.2.1 11 k + 1)) 12 k (s.2.1 3 5), ?_, fun p hp => ?_, fun p hp => ?_, fun c e1 e2 => by rw [r_I e2, r_I e1, g3 c e1 e2]⟩
        · show XSt_paste_3_l151 (n + 1) (nI k) a = XSt_paste_3_l151 n (nI (k + 1)) _
          have c' : ((a.2.1 3 10 >>> (nI k &&& 31)) &&& 1) = 1 := by rw [g3 3 (by omega) (by omega)]; exact c
          rw [XSt_paste_3_l151, if_neg (by rw [q_16, z_le (by omega) (by omega)]; omega), if_pos c']
          simp (disch := omega) only [z_1, z_cl, z_lt0, z_nle, if_false, or_self, g3 3 (by omega) (by omega), (g2 k (Nat.le_refl k)).1]
        · by_cases e : p = k
          · subst e
            rw [r_I (by omega), r_Ie, r_u, r_Ie, r_u]
            exact ⟨fun _ => ⟨rfl, rfl⟩, fun h => absurd c h⟩
          · rw [r_two 11 p (by omega) (by omega), r_two 12 p (by omega) (by omega)]
            exact g1 p (by omega)
        · rw [r_two 11 p (by omega) (by omega), r_two 12 p (by omega) (by omega)]
          exact g2 p (by omega)
      · refine Or.inr ⟨a, ?_, fun p hp => ?_, fun p hp => g2 p (by omega), g3⟩
        · show XSt_paste_3_l151 (n + 1) (nI k) a = XSt_paste_3_l151 n (nI (k + 1)) _
          have c' : ¬ ((a.2.1 3 10 >>> (nI k &&& 31)) &&& 1) = 1 := by rw [g3 3 (by omega) (by omega)]; exact c
          rw [XSt_paste_3_l151, if_neg (by rw [q_16, z_le (by omega) (by omega)]; omega), if_neg c', z_1]
        · by_cases e : p = k
          · subst e
            exact ⟨fun h => absurd h c, fun _ => g2 p (Nat.le_refl p)⟩
          · exact g1 p (by omega)) 70000 0 s (by omega) ⟨fun p hp => absurd hp (Nat.not_lt_zero _), fun _ _ => ⟨rfl, rfl⟩, fun _ _ _ => rfl⟩ (by omega)
  exact ⟨b, h1, h2, h3⟩
theorem d_markM (v y : Int32) (t : ax_S) : ∃ u, M_dayGoes_l303 70000 y v 0 t = some u ∧ (∀ p, p < 16 → (d_bit v p → u.2.1 64 (76 + p) = t.2.1 64 (76 + p) + 1 ∧ u.2.1 64 (92 + p) = t.2.1 64 289) ∧ (¬ d_bit v p → u.2.1 64 (76 + p) = t.2.1 64 (76 + p) ∧ u.2.1 64 (92 + p) = t.2.1 64 (92 + p))) ∧ (∀ j, j < 76 ∨ 108 ≤ j → u.2.1 64 j = t.2.1 64 j) ∧ ∀ c, c ≠ 64 → u.2.1 c = t.2.1 c := by
  obtain ⟨b, h1, h2, -, h3, h4⟩ := z_for (fun n k (a : ax_S) => M_dayGoes_l303 n y v (nI k) a) 16 (fun k a => (∀ p, p < k → (d_bit v p → a.2.1 64 (76 + p) = t.2.1 64 (76 + p) + 1 ∧ a.2.1 64 (92 + p) = t.2.1 64 289) ∧ (¬ d_bit v p → a.2.1 64 (76 + p) = t.2.1 64 (76 + p) ∧ a.2.1 64 (92 + p) = t.2.1 64 (92 + p))) ∧ (∀ p, k ≤ p → p < 16 → a.2.1 64 (76 + p) = t.2.1 64 (76 + p) ∧ a.2.1 64 (92 + p) = t.2.1 64 (92 + p)) ∧ (∀ j, j < 76 ∨ 108 ≤ j → a.2.1 64 j = t.2.1 64 j) ∧ ∀ c, c ≠ 64 → a.2.1 c = t.2.1 c) (fun a => (∀ p, p < 16 → (d_bit v p → a.2.1 64 (76 + p) = t.2.1 64 (76 + p) + 1 ∧ a.2.1 64 (92 + p) = t.2.1 64 289) ∧ (¬ d_bit v p → a.2.1 64 (76 + p) = t.2.1 64 (76 + p) ∧ a.2.1 64 (92 + p) = t.2.1 64 (92 + p))) ∧ (∀ p, 16 ≤ p → p < 16 → a.2.1 64 (76 + p) = t.2.1 64 (76 + p) ∧ a.2.1 64 (92 + p) = t.2.1 64 (92 + p)) ∧ (∀ j, j < 76 ∨ 108 ≤ j → a.2.1 64 j = t.2.1 64 j) ∧ ∀ c, c ≠ 64 → a.2.1 c = t.2.1 c) (fun n a ha => ⟨a, by
      show M_dayGoes_l303 (n + 1) y v (nI 16) a = some a
      rw [M_dayGoes_l303]
      exact if_pos (by decide), ha⟩) (fun n k a hk ha => by
      obtain ⟨g1, g2, g3, g4⟩ := ha
      by_cases c : d_bit v k
      · refine Or.inr ⟨ax_sI (ax_sI a 64 (76 + k) (t.2.1 64 (76 + k) + 1)) 64 (92 + k) (t.2.1 64 289), ?_, fun p hp => ?_, fun p hp hp2 => ?_, fun j hj => ?_, fun c e1 => by rw [r_I e1, r_I e1, g4 c e1]⟩
        · show M_dayGoes_l303 (n + 1) y v (nI k) a = M_dayGoes_l303 n y v (nI (k + 1)) _
          have c' : M_has v (nI k) a = 1 := by unfold M_has; exact if_pos c
          rw [M_dayGoes_l303, if_neg (by rw [q_16, z_le (by omega) (by omega)]; omega), c', if_neg (by decide)]
          simp (disch := omega) only [q_76, q_92, nI_add, z_1, z_cl, z_lt0, z_nle, if_false, or_self]
          rw [(g2 k (Nat.le_refl k) hk).1, r_one 64 289 (by omega), g3 289 (by omega)]
        · by_cases e : p = k
          · subst e
            rw [r_one 64 (76 + p) (by omega), r_Ie, r_u, r_Ie, r_u]
            exact ⟨fun _ => ⟨rfl, rfl⟩, fun h => absurd c h⟩
          · rw [r_two 64 (76 + p) (by omega) (by omega), r_two 64 (92 + p) (by omega) (by omega)]
            exact g1 p (by omega)
        · rw [r_two 64 (76 + p) (by omega) (by omega), r_two 64 (92 + p) (by omega) (by omega)]
          exact g2 p (by omega) hp2
        · rw [r_two 64 j (by omega) (by omega)]; exact g3 j hj
      · refine Or.inr ⟨a, ?_, fun p hp => ?_, fun p hp hp2 => g2 p (by omega) hp2, g3, g4⟩
        · show M_dayGoes_l303 (n + 1) y v (nI k) a = M_dayGoes_l303 n y v (nI (k + 1)) _
          have c' : M_has v (nI k) a = 0 := by unfold M_has; exact if_neg c
          rw [M_dayGoes_l303, if_neg (by rw [q_16, z_le (by omega) (by omega)]; omega), c', if_pos rfl, z_1]
        · by_cases e : p = k
          · subst e
            exact ⟨fun h => absurd h c, fun _ => g2 p (Nat.le_refl p) (by omega)⟩
          · exact g1 p (by omega)) 70000 0 t (by omega) ⟨fun p hp => absurd hp (Nat.not_lt_zero _), fun _ _ _ => ⟨rfl, rfl⟩, fun _ _ => rfl, fun _ _ => rfl⟩ (by omega)
  exact ⟨b, h1, h2, h3, h4⟩
