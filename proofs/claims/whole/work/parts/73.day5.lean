/-! a day: the cut goes into the album -/
def d_val (x y w h : Nat) (W : Int32) (σ : Nat) : Nat → Int32
  | 0 => nI x
  | 1 => nI y
  | 2 => nI w
  | 3 => nI h
  | 4 => W
  | _ => nI σ
def d_who (F : z_V) (x y w h : Nat) : Int32 := if w * h = 0 then 0 else z_or (g_W F (nI x) (nI y) (nI w) (nI h)) 12
theorem d_pasteX {s : ax_S} {x y w h σ d : Nat} (hs : ct_st s x y w h) (hw : w ≤ 16) (hh : h ≤ 12) (hz : w * h = 0 → x = 0 ∧ y = 0 ∧ w = 0 ∧ h = 0) (hσ : σ ≤ 1) (hd : d ≤ 9999) (h5 : s.2.1 3 5 = nI d) :
    ∃ u, XSt_paste_3 (nI σ) s = some u ∧ u.2.1 3 5 = nI (d + 1) ∧ u.2.1 3 7 = s.2.1 3 7 + nI (w * h) ∧ u.2.1 3 9 = nI (w * h) ∧ u.2.1 3 10 = d_who (vX s.2.1 5) x y w h ∧
      (∀ j k, j < 30 → k < 6 → u.2.1 13 (6 * j + k) = if j = d % 30 then d_val x y w h (d_who (vX s.2.1 5) x y w h) σ k else s.2.1 13 (6 * j + k)) ∧
      (∀ p, p < 16 → (d_bit (d_who (vX s.2.1 5) x y w h) p → u.2.1 11 p = s.2.1 11 p + 1 ∧ u.2.1 12 p = nI (d + 1)) ∧ (¬ d_bit (d_who (vX s.2.1 5) x y w h) p → u.2.1 11 p = s.2.1 11 p ∧ u.2.1 12 p = s.2.1 12 p)) ∧
      (∀ c j, c ≠ 11 → c ≠ 12 → c ≠ 13 → ¬ (c = 3 ∧ (j = 5 ∨ j = 7 ∨ j = 9 ∨ j = 10)) → u.2.1 c j = s.2.1 c j) := by
  have hwh := ct_mul hw hh
  obtain ⟨s1, s2, s3, s4⟩ := hs
  have hc : XCu_cells s = nI (w * h) := by unfold XCu_cells; rw [s3, s4, pk_mul]
  unfold XSt_paste_3
  rw [hc]
  generalize hS9 : ax_sI (ax_sI s 3 9 (nI (w * h))) 3 7 (s.2.1 3 7 + nI (w * h)) = S9
  have f9 : ∀ c j, ¬ (c = 3 ∧ (j = 9 ∨ j = 7)) → S9.2.1 c j = s.2.1 c j := fun c j e => by rw [← hS9]; exact r_two c j (by omega) (by omega)
  have e9 : S9.2.1 3 9 = nI (w * h) := by rw [← hS9, r_one _ _ (by omega), r_Ie, r_u]
  have e7 : S9.2.1 3 7 = s.2.1 3 7 + nI (w * h) := by rw [← hS9, r_Ie, r_u]
  have hj : XSt_paste_3_j26 (nI σ) (nI (w * h)) S9 = some (d_who (vX s.2.1 5) x y w h) := by
    unfold XSt_paste_3_j26 d_who
    by_cases c : w * h = 0
    · rw [if_pos (by rw [z_eq0 (by omega)]; exact c), if_pos c]
    · rw [if_neg (by rw [z_eq0 (by omega)]; exact c), if_neg c]
      unfold XCu_wholeInCut_4
      rw [X_whole_eq, f9 55 1 (by omega), f9 55 2 (by omega), f9 55 3 (by omega), f9 55 4 (by omega), s1, s2, s3, s4]
      have : vX S9.2.1 5 = vX s.2.1 5 := by
        funext k i
        show S9.2.1 (5 + k) i = s.2.1 (5 + k) i
        exact f9 _ _ (by omega)
      rw [this]
  rw [hj]
  generalize d_who (vX s.2.1 5) x y w h = W
  simp only []
  generalize hS10 : ax_sI S9 3 10 W = S10
  have f10 : ∀ c j, ¬ (c = 3 ∧ (j = 9 ∨ j = 7 ∨ j = 10)) → S10.2.1 c j = s.2.1 c j := fun c j e => by rw [← hS10, r_one c j (by omega), f9 c j (by omega)]
  have e910 : S10.2.1 3 9 = nI (w * h) := by rw [← hS10, r_one _ _ (by omega)]; exact e9
  have e710 : S10.2.1 3 7 = s.2.1 3 7 + nI (w * h) := by rw [← hS10, r_one _ _ (by omega)]; exact e7
  have e1010 : S10.2.1 3 10 = W := by rw [← hS10, r_Ie, r_u]
  have hplace : XSt_cutPlace (s.2.1 3 5) S10 = nI (d % 30 * 6) := by
    unfold XSt_cutPlace
    rw [h5, show nI d - nI d / 30 * 30 = nI (d % 30) from z_rem (a := d) (d := 30) (by omega) (by omega) (by omega), q_6, pk_mul]
  rw [hplace]
  have hm : d % 30 < 30 := Nat.mod_lt _ (by omega)
  -- the four parts
  obtain ⟨S11, g1, g2, g3⟩ : ∃ S11, XSt_paste_3_l71 70000 (nI σ) (nI (d % 30 * 6)) 0 S10 = some S11 ∧ (∀ k, k < 4 → S11.2.1 13 (d % 30 * 6 + k) = d_val x y w h W σ k) ∧ ∀ c j, ¬ (c = 13 ∧ d % 30 * 6 ≤ j ∧ j < d % 30 * 6 + 4) → S11.2.1 c j = S10.2.1 c j := by
    obtain ⟨b, h1, h2, h3⟩ := z_for (fun n k (a : ax_S) => XSt_paste_3_l71 n (nI σ) (nI (d % 30 * 6)) (nI k) a) 4 (fun k a => (∀ j, j < k → a.2.1 13 (d % 30 * 6 + j) = d_val x y w h W σ j) ∧ ∀ c j, ¬ (c = 13 ∧ d % 30 * 6 ≤ j ∧ j < d % 30 * 6 + 4) → a.2.1 c j = S10.2.1 c j) (fun a => (∀ j, j < 4 → a.2.1 13 (d % 30 * 6 + j) = d_val x y w h W σ j) ∧ ∀ c j, ¬ (c = 13 ∧ d % 30 * 6 ≤ j ∧ j < d % 30 * 6 + 4) → a.2.1 c j = S10.2.1 c j) (fun n a ha => ⟨a, by
        show XSt_paste_3_l71 (n + 1) (nI σ) (nI (d % 30 * 6)) (nI 4) a = some a
        rw [XSt_paste_3_l71]
        exact if_pos (by decide), ha⟩) (fun n k a hk ha => Or.inr ⟨ax_sI a 13 (d % 30 * 6 + k) (d_val x y w h W σ k), by
        show XSt_paste_3_l71 (n + 1) (nI σ) (nI (d % 30 * 6)) (nI k) a = XSt_paste_3_l71 n (nI σ) (nI (d % 30 * 6)) (nI (k + 1)) _
        have a9 : a.2.1 3 9 = nI (w * h) := by rw [ha.2 _ _ (by omega)]; exact e910
        have a55 : ∀ j, a.2.1 55 j = s.2.1 55 j := fun j => by rw [ha.2 _ _ (by omega), f10 _ _ (by omega)]
        rw [XSt_paste_3_l71, if_neg (by rw [q_4, z_le (by omega) (by omega)]; omega), a9]
        have hv : nI (w * h) = 0 → d_val x y w h W σ k = 0 := fun e => by
          rw [z_eq0 (by omega)] at e
          obtain ⟨rfl, rfl, rfl, rfl⟩ := hz e
          have h : k = 0 ∨ k = 1 ∨ k = 2 ∨ k = 3 := by omega
          rcases h with rfl | rfl | rfl | rfl <;> rfl
        simp (disch := omega) only [nI_add, z_1, z_cl, z_lt0, z_nle, if_false, or_self]
        by_cases c : nI (w * h) = 0
        · rw [if_pos c, hv c]
        · rw [if_neg c]
          have hp : XCu_part (nI k) a = d_val x y w h W σ k := by
            have hcc : XCu_cells a = nI (w * h) := by unfold XCu_cells; rw [a55, a55, s3, s4, pk_mul]
            unfold XCu_part
            rw [hcc, if_neg c, a55, a55, a55, a55, s1, s2, s3, s4]
            have h : k = 0 ∨ k = 1 ∨ k = 2 ∨ k = 3 := by omega
            rcases h with rfl | rfl | rfl | rfl <;> rfl
          rw [hp], by
        refine ⟨fun j hj => ?_, fun c j e => by rw [r_one c j (by omega)]; exact ha.2 c j e⟩
        by_cases e : j = k
        · subst e; rw [r_Ie, r_u]
        · rw [r_one _ _ (by omega)]; exact ha.1 j (by omega)⟩) 70000 0 S10 (by omega) ⟨fun j hj => absurd hj (Nat.not_lt_zero _), fun _ _ _ => rfl⟩ (by omega)
    exact ⟨b, h1, h2, h3⟩
  have hj53 : XSt_paste_3_j53 (nI σ) (nI (d % 30 * 6)) (nI (d % 30 * 6)) S10 = some (ax_sI (ax_sI S11 13 (d % 30 * 6 + 4) W) 13 (d % 30 * 6 + 5) (nI σ)) := by
    unfold XSt_paste_3_j53
    rw [if_neg (nI_pos (by omega)), if_neg (by rw [q_180, q_6, nI_add, z_lt (by omega) (by omega)]; omega), g1]
    have e310 : S11.2.1 3 10 = W := by rw [g3 _ _ (by omega)]; exact e1010
    simp (disch := omega) only [q_4, q_5, nI_add, z_cl, z_lt0, z_nle, if_false, or_self, e310]
    have h : σ = 0 ∨ σ = 1 := by omega
    rcases h with rfl | rfl
    · rw [if_pos (show nI 0 = 0 from rfl)]; rfl
    · rw [if_neg (by decide)]; rfl
  rw [hj53]
  simp only []
  generalize hS12 : ax_sI (ax_sI S11 13 (d % 30 * 6 + 4) W) 13 (d % 30 * 6 + 5) (nI σ) = S12
  have f12 : ∀ c j, c ≠ 13 → S12.2.1 c j = S10.2.1 c j := fun c j e => by rw [← hS12, r_I e, r_I e, g3 c j (by omega)]
  have a12 : ∀ j k, j < 30 → k < 6 → S12.2.1 13 (6 * j + k) = if j = d % 30 then d_val x y w h W σ k else s.2.1 13 (6 * j + k) := fun j k hj hk => by
    rw [← hS12]
    by_cases e : j = d % 30
    · rw [if_pos e]
      subst e
      by_cases k5 : k = 5
      · subst k5; rw [show 6 * (d % 30) + 5 = d % 30 * 6 + 5 by omega, r_Ie, r_u]; rfl
      · by_cases k4 : k = 4
        · subst k4; rw [show 6 * (d % 30) + 4 = d % 30 * 6 + 4 by omega, r_one _ _ (by omega), r_Ie, r_u]; rfl
        · rw [r_two _ _ (by omega) (by omega), show 6 * (d % 30) + k = d % 30 * 6 + k by omega, g2 k (by omega)]
    · rw [if_neg e, r_two _ _ (by omega) (by omega), g3 _ _ (by omega), f10 _ _ (by omega)]
  have b5 : S12.2.1 3 5 = nI d := by rw [f12 _ _ (by omega), f10 _ _ (by omega)]; exact h5
  rw [b5, z_1]
  obtain ⟨u, m1, m2, m3⟩ := d_markX (ax_sI S12 3 5 (nI (d + 1)))
  rw [m1]
  have k3 : ∀ j, j ≠ 5 → u.2.1 3 j = S10.2.1 3 j := fun j e => by rw [m3 3 (by omega) (by omega), r_one _ _ (by omega), f12 _ _ (by omega)]
  have e10' : (ax_sI S12 3 5 (nI (d + 1))).2.1 3 10 = W := by rw [r_one _ _ (by omega), f12 _ _ (by omega)]; exact e1010
  refine ⟨u, rfl, ?_, by rw [k3 7 (by omega)]; exact e710, by rw [k3 9 (by omega)]; exact e910, by rw [k3 10 (by omega)]; exact e1010, fun j k hj hk => ?_, fun p hp => ?_, fun c j e1 e2 e3 e4 => ?_⟩
  · rw [m3 3 (by omega) (by omega), r_Ie, r_u]
  · rw [m3 13 (by omega) (by omega), r_I (by omega)]; exact a12 j k hj hk
  · have := m2 p hp
    rw [e10', r_I (c := 11) (by omega), r_I (c := 12) (by omega), r_Ie, r_u, f12 11 p (by omega), f12 12 p (by omega), f10 11 p (by omega), f10 12 p (by omega)] at this
    exact this
  · rw [m3 c e1 e2, r_one c j (by omega), f12 c j e3, f10 c j (by omega)]
theorem d_remM {t : ax_S} {x y w h σ d : Nat} (W : Int32) (ht : ct_sM t x y w h) (hd : d ≤ 9999) (h288 : t.2.1 64 288 = nI d) :
    ∃ u, M_remembers W (nI σ) t = some u ∧ u.2.1 64 288 = nI (d + 1) ∧ (∀ j k, j < 30 → k < 6 → u.2.1 64 (108 + 30 * k + j) = if j = d % 30 then d_val x y w h W σ k else t.2.1 64 (108 + 30 * k + j)) ∧ (∀ j, j < 108 ∨ 288 < j → u.2.1 64 j = t.2.1 64 j) ∧ ∀ c, c ≠ 64 → u.2.1 c = t.2.1 c := by
  obtain ⟨s1, s2, s3, s4⟩ := ht
  unfold M_remembers
  rw [h288, show nI d - nI d / 30 * 30 = nI (d % 30) from z_rem (a := d) (d := 30) (by omega) (by omega) (by omega), s1, s2, s3, s4]
  have hm : d % 30 < 30 := Nat.mod_lt _ (by omega)
  simp (disch := omega) only [q_108, q_138, q_168, q_198, q_228, q_258, nI_add, z_cl, z_lt0, z_nle, if_false, or_self]
  refine ⟨_, rfl, ?_, fun j k hj hk => ?_, fun j hj => ?_, fun c hc => ?_⟩
  · simp (disch := omega) only [r_Ie, r_u, r_un]
    rw [h288, z_1]
  · have h : k = 0 ∨ k = 1 ∨ k = 2 ∨ k = 3 ∨ k = 4 ∨ k = 5 := by omega
    by_cases e : j = d % 30
    · rw [if_pos e]
      subst e
      rcases h with rfl | rfl | rfl | rfl | rfl | rfl
      all_goals simp (disch := omega) only [Nat.reduceMul, Nat.reduceAdd, Nat.add_zero, r_Ie, r_u, r_un]
      all_goals rfl
    · rw [if_neg e]
      rcases h with rfl | rfl | rfl | rfl | rfl | rfl
      all_goals simp (disch := omega) only [Nat.reduceMul, Nat.reduceAdd, Nat.add_zero, r_Ie, r_u, r_un]
  · simp (disch := omega) only [r_Ie, r_un]
  · simp (disch := omega) only [r_I]
