/-! without, today, sky -/
theorem cut_ans {s t : ax_S} {oc : Nat → Nat → Prop} {x y w h : Nat} (hX : ct_st s x y w h) (hM : ct_sM t x y w h) (hok : ct_ok oc x y w h) (k : Int32) : XCu_part k s = M_cutIs k t := by
  obtain ⟨B1, B2, B3, B4, B5⟩ := ct_bnd hok
  unfold XCu_part M_cutIs XCu_cells
  rw [hX.1, hX.2.1, hX.2.2.1, hX.2.2.2, hM.1, hM.2.1, hM.2.2.1, hM.2.2.2, pk_mul]
  simp only [z_eq0 (show w * h < 2147483648 by omega), z_eq0 (show w < 2147483648 by omega)]
  have e : w * h = 0 ↔ w = 0 := by
    constructor
    · intro q
      rcases hok with ⟨-, -, r, -⟩ | ⟨v, -⟩
      · exact r
      · have := ct_pos v.1 v.2.1; omega
    · rintro rfl; exact Nat.zero_mul _
  by_cases c : w = 0
  · rw [if_pos (e.mpr c), if_pos c]
  · rw [if_neg (fun q => c (e.mp q)), if_neg c]
theorem y_cut {s : ax_S} (h : y_inv s.2.1) {P : Nat} (hP : P < 65536) : ∃ s1 s2, XCu_cutWithout_4 (nI P) s = some s1 ∧ M_cutsWithout (nI P) s1 = some s2 ∧ (∀ k, XCu_part k s1 = M_cutIs k s2) ∧ y_inv s2.2.1 := by
  have hR : v_R (vX s.2.1 5) (vM s.2.1 64) := h.1.1
  obtain ⟨s1, x, y, w, h1, e1, e2, e3, e4⟩ := X_cut_eq (v_at_vX s.2.1 5) (v_R_valX hR) hP
  have hM : v_aM s1.2.1 (vM s.2.1 64) := fun k i hk hi => by rw [e4 64 (by omega) (by omega)]; rfl
  obtain ⟨s2, x', y', w', h', g1, g2, g3, g4⟩ := M_cut_eq hM (v_R_val hR) hP
  have hoc : v_oc (vX s.2.1 5) P 0 = v_oc (vM s.2.1 64) P 0 := funext fun a => funext fun b => propext (v_R_oc hR P 0 a b)
  rw [hoc] at e3
  obtain ⟨rfl, rfl, rfl, rfl⟩ := ct_uniq e3 g3
  exact ⟨s1, s2, e1, g1, fun k => cut_ans e2 g2 g3.1 k, g_inv h fun c j k => by rw [g4 c j (by omega), e4 c (by omega) (by omega)]⟩
theorem z_16 {x : Int32} (s : ax_S) : (M_in x 0 65535 s = 0) ∨ (M_in x 0 65535 s = 1 ∧ ∃ n, n < 65536 ∧ x = nI n) := by
  rcases z_inX (x := x) (s := s) 0 65535 (by omega) (by omega) with h | ⟨h, n, -, h2, h3⟩
  · exact Or.inl h
  · exact Or.inr ⟨h, n, by omega, h3⟩
theorem y_without (p k : Int32) (s : ax_S) (h : y_inv s.2.1) : y_sim (X_without p k) (M_without p k) s := by
  rcases z_16 (x := p) s with h1 | ⟨h1, P, hP, rfl⟩
  · exact y_same h (-1) (by unfold X_without X_arePersons; rw [X_within_eq, if_pos h1]) (by unfold M_without; rw [if_pos h1])
  · have h2 : ¬ M_in (nI P) 0 65535 s = 0 := by rw [h1]; decide
    by_cases h3 : M_in k 0 3 s = 0
    · exact y_same h (-1) (by unfold X_without X_arePersons; rw [X_within_eq, if_neg h2, X_within_eq, if_pos h3]) (by unfold M_without; rw [if_neg h2, if_pos h3])
    · obtain ⟨s1, s2, e1, e2, e3, e4⟩ := y_cut h hP
      refine ⟨XCu_part k s1, s1, s2, ?_, ?_, e4⟩
      · unfold X_without X_arePersons
        rw [X_within_eq, if_neg h2, X_within_eq, if_neg h3, e1]
      · unfold M_without
        rw [if_neg (show ¬ M_in (nI P) 0 65535 s1 = 0 from h2), if_neg (show ¬ M_in k 0 3 s1 = 0 from h3), e2, e3]
theorem y_sky (k : Int32) (s : ax_S) (h : y_inv s.2.1) : y_sim (X_sky k) (M_sky k) s := by
  obtain ⟨a, s1, s2, e1, e2, e3⟩ := y_without 65535 k s h
  refine ⟨a, s1, s2, ?_, ?_, e3⟩
  · unfold X_without at e1
    rw [if_neg (show ¬ X_arePersons 65535 s = 0 by unfold X_arePersons X_isWithin; decide)] at e1
    exact e1
  · unfold M_sky
    rw [e2]
theorem g_An (w : Nat → Int32) (b : Int32) : ∃ m, m < 65536 ∧ z_or (g_A w b) 16 = nI m ∧ ∀ k, m.testBit k = true ↔ k < 16 ∧ ¬ w k ≤ b := by
  obtain ⟨m, h1, h2, h3⟩ := z_orN (g := g_A w b) (b := fun i => if w i ≤ b then 0 else 2 ^ i) 16 (fun i hi => by
    unfold g_A
    by_cases c : w i ≤ b
    · rw [if_pos c, if_pos c]; exact ⟨by omega, rfl⟩
    · rw [if_neg c, if_neg c]; exact ⟨x_plt hi, x_shl i (by omega)⟩)
  refine ⟨m, h1, h2, fun k => (h3 k).trans ⟨fun ⟨i, hi, e⟩ => ?_, fun ⟨hk, e⟩ => ⟨k, hk, by rw [if_neg e, x_pow]; simp⟩⟩⟩
  by_cases c : w i ≤ b
  · rw [if_pos c] at e; simp at e
  · rw [if_neg c, x_pow] at e
    have : i = k := by simpa using e
    subst this
    exact ⟨hi, c⟩
theorem y_pset {s : ax_S} (h : y_inv s.2.1) : z_or (g_A (s.2.1 10) (s.2.1 0 12)) 16 = z_or (g_A (fun i => s.2.1 64 (60 + i)) (s.2.1 63 3)) 16 := by
  obtain ⟨b, -, h1, h2⟩ := h.2.2.1
  rw [h1, h2]
  exact z_or_congr 16 fun i hi => by unfold g_A; rw [show s.2.1 10 i = s.2.1 64 (60 + i) from (h.1.2.1 i hi).1]
theorem y_today (k : Int32) (s : ax_S) (h : y_inv s.2.1) : y_sim (X_today k) (M_today k) s := by
  obtain ⟨m, h1, h2, -⟩ := g_An (s.2.1 10) (s.2.1 0 12)
  have hp := y_pset h
  rw [h2] at hp
  have hin : ∀ t, ¬ M_in (nI m) 0 65535 t = 0 := fun t => by
    unfold M_in
    rw [if_neg (nI_pos (by omega)), if_neg (by rw [q_65535, z_lt (by omega) (by omega)]; omega)]
    decide
  by_cases h3 : M_in k 0 3 s = 0
  · refine y_same h (-1) ?_ ?_
    · unfold X_today; rw [X_within_eq, if_pos h3]
    · unfold M_today M_without
      rw [M_painfulSet_eq, ← hp]
      simp only [hin, h3, if_true, if_false]
  · obtain ⟨s1, s2, e1, e2, e3, e4⟩ := y_cut h h1
    refine ⟨XCu_part k s1, s1, s2, ?_, ?_, e4⟩
    · unfold X_today
      rw [X_within_eq, if_neg h3, XSt_painfulAbove_3_eq, h2]
      simp only [e1]
    · have hM : M_painfulSet s1 = some (nI m) := by
        rw [M_painfulSet_eq, hp]
        obtain ⟨s1', x, y, w, h1', f1, f2, f3, f4⟩ := X_cut_eq (v_at_vX s.2.1 5) (v_R_valX h.1.1) h1
        rw [e1] at f1
        cases f1
        rw [f4 64 (by omega) (by omega), f4 63 (by omega) (by omega)]
      unfold M_today M_without
      rw [hM]
      simp only [hin, show ¬ M_in k 0 3 s1 = 0 from h3, if_false, e2, e3]
