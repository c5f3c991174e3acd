/-! law: a whole code is run -/
theorem l_run {F G : Nat → Int32} {a m D : Nat} {V : (Nat → Int32) → Option Int32} (h : l_seg F G a m V D) (hD : D ≤ 64) (hm : a + m ≤ 256) (s : ax_S) (hF : ∀ q, a ≤ q → q < a + m → s.2.1 41 q = F q ∧ s.2.1 42 q = G q) : ∃ t, XLa_reckon_36 (nI a) (nI (a + m)) s = some (l_x (V (y_e fun i => s.2.1 36 (9 + i))), t) ∧ t.2.1 = s.2.1 := by
  obtain ⟨n, hn⟩ : ∃ n, 70000 = n + 1 + m := ⟨70000 - 1 - m, by omega⟩
  obtain ⟨t, h1, h2, h3, h4⟩ := h s 0 (a + m) (n + 1) hF (Nat.le_refl _) hm (by omega)
  have e0 : (if (0 : Int32) < nI a then nI a else 0) = nI a := by
    by_cases c : a = 0
    · subst c; rfl
    · rw [if_pos (by rw [z_0lt (by omega)]; omega)]
  have e1 : XLa_reckon_36_l9 (n + 1) (nI (a + m)) (nI (0 + 1)) (nI (a + m)) t = some (nI 1, t) := by
    rw [XLa_reckon_36_l9, if_pos (by rw [z_le (by omega) (by omega)]; omega)]
  refine ⟨t, ?_, h2⟩
  unfold XLa_reckon_36
  rw [e0, hn]
  have h1 : XLa_reckon_36_l9 (n + 1 + m) (nI (a + m)) 0 (nI a) s = XLa_reckon_36_l9 (n + 1) (nI (a + m)) (nI (0 + 1)) (nI (a + m)) t := h1
  rw [h1, e1]
  simp only []
  rw [if_neg (show ¬ nI 1 ≤ 0 by decide), h4]
theorem l_runM {F : Nat → Int32} {a m D : Nat} {V : (Nat → Int32) → Option Int32} (h : l_sgM F a m V D) (hD : D ≤ 260) (hm : a + m < 260) (s : ax_S) (hF : ∀ q, a ≤ q → q < a + m → s.2.1 74 q = F q) : ∃ t, M_comesTo (nI a) (nI (a + m)) s = some ((V (y_e (s.2.1 80))).getD 0, t) ∧ ∀ c, c ≠ 79 → t.2.1 c = s.2.1 c := by
  obtain ⟨n, hn⟩ : ∃ n, 70000 = n + 1 + m := ⟨70000 - 1 - m, by omega⟩
  have e0 : (260 : Int32) * (nI a / 260) = 0 := by
    rw [q_260, z_div (by omega) (by omega) (by omega), Nat.div_eq_of_lt (by omega)]
    decide
  unfold M_comesTo
  rw [e0, hn]
  rcases h s 0 (a + m) (n + 1) hF (Nat.le_refl _) (by omega) (by omega) with ⟨t, n2, a0, a1, a2, a3, -⟩ | ⟨a1, t, a2, a3⟩
  · obtain ⟨n3, rfl⟩ : ∃ x, n2 = x + 1 := ⟨n2 - 1, by omega⟩
    have a2 : M_comesTo_l16 (n + 1 + m) (nI (a + m)) 0 0 (nI a) s = M_comesTo_l16 (n3 + 1) (nI (a + m)) (nI (0 + 1)) 0 (nI (a + m)) t := a2
    rw [a2, M_comesTo_l16, if_pos (by rw [z_le (by omega) (by omega)]; omega), a1]
    exact ⟨t, rfl, a3⟩
  · have a2 : M_comesTo_l16 (n + 1 + m) (nI (a + m)) 0 0 (nI a) s = some (0, t) := a2
    rw [a2, a1]
    exact ⟨t, rfl, a3⟩
