/-! law: the class's reader always answers (conditions, all) -/
theorem la_add1 (x y : Int32) (s : ax_S) (o : l_ok s) : ∃ t, XLa_add_44 x y s = some t ∧ l_K s t ∧ l_ok t := l_add x y s o
theorem la_open (rec : Nat → Int32 → Int32 → ax_S → Option ax_S) (v : Int32) (d : Nat) (hd : d ≤ 6) (h1 : d < 6 → ∀ s, l_ok s → l_an (rec 1 (nI (d + 1)) 0 s) s) (h0 : d < 6 → ∀ s, l_ok s → l_an (rec 0 (nI (d + 1)) 0 s) s) (s : ax_S) (o : l_ok s) : l_an (XLaRe_readOpenTest rec v (nI d) s) s := by
  unfold XLaRe_readOpenTest
  by_cases c : nI d < 6
  · have d6 : d < 6 := by rw [q_6, z_lt (by omega) (by omega)] at c; exact c
    rw [if_pos c, z_1]
    by_cases c2 : v = 33
    · rw [if_pos c2]
      obtain ⟨t, e1, e2, e3⟩ := h1 d6 _ (lok_K (l_step s) o)
      rw [e1]
      obtain ⟨u, f1, f2, f3⟩ := l_add 33 0 t e3
      simp only [f1]
      exact ⟨u, rfl, lK_tr (lK_of (l_step s)) (lK_tr e2 f2), f3⟩
    · rw [if_neg c2]
      obtain ⟨t, e1, e2, e3⟩ := h0 d6 _ (lok_K (l_step s) o)
      rw [e1]
      obtain ⟨w, u, f1, f2⟩ := a_take 41 t
      simp only [f1]
      exact ⟨u, rfl, lK_tr (lK_of (l_step s)) (lK_tr e2 (lK_of f2)), lok_K f2 e3⟩
  · rw [if_neg c]
    exact ⟨_, rfl, lK_of (K_ref _ _ _), lok_K (K_ref _ _ _) o⟩
theorem la_test (rec : Nat → Int32 → Int32 → ax_S → Option ax_S) (x1 : Int32) (h2 : ∀ v s, l_ok s → l_an (rec 2 v x1 s) s) (h3 : ∀ s, l_ok s → l_an (rec 3 x1 0 s) s) (s : ax_S) (o : l_ok s) : l_an (XLaRe_readTest rec x1 s) s := by
  unfold XLaRe_readTest
  obtain ⟨v, hv⟩ := a_peek s
  rw [hv]
  simp only []
  by_cases c1 : v = 33
  · rw [if_pos c1]
    obtain ⟨t, e1, e2, e3⟩ := h2 v s o
    rw [e1]
    exact ⟨t, rfl, e2, e3⟩
  rw [if_neg c1]
  by_cases c2 : v = 40
  · rw [if_pos c2]
    obtain ⟨t, e1, e2, e3⟩ := h2 v s o
    rw [e1]
    exact ⟨t, rfl, e2, e3⟩
  rw [if_neg c2]
  obtain ⟨t, e1, e2, e3⟩ := h3 s o
  rw [e1]
  obtain ⟨w, hw⟩ := a_peek t
  simp only [hw]
  have more : l_an (match rec 3 x1 0 (XTa_step t) with
      | none => none
      | some s5 => match XLa_add_44 w 0 s5 with
        | none => none
        | some s6 => some s6) s := by
    obtain ⟨u, f1, f2, f3⟩ := h3 _ (lok_K (l_step t) e3)
    rw [f1]
    obtain ⟨u2, g1, g2, g3⟩ := l_add w 0 u f3
    simp only [g1]
    exact ⟨u2, rfl, lK_tr e2 (lK_tr (lK_of (l_step t)) (lK_tr f2 g2)), g3⟩
  by_cases d1 : w = 60
  · rw [if_pos d1]; exact more
  rw [if_neg d1]
  by_cases d2 : w = 62
  · rw [if_pos d2]; exact more
  rw [if_neg d2]
  by_cases d3 : w = 61
  · rw [if_pos d3]; exact more
  rw [if_neg d3]
  exact ⟨_, rfl, lK_tr e2 (lK_of (K_ref _ _ _)), lok_K (K_ref _ _ _) e3⟩
theorem la_cond (rec : Nat → Int32 → Int32 → ax_S → Option ax_S) (x1 : Int32) (h : ∀ s, l_ok s → l_an (rec 1 x1 0 s) s) (s : ax_S) (o : l_ok s) : l_an (XLaRe_readCondition rec x1 s) s := by
  unfold XLaRe_readCondition
  obtain ⟨s1, a1, a2, a3⟩ := h s o
  rw [a1]
  obtain ⟨v2, b1⟩ := a_peek s1
  simp only [b1]
  have j48 : ∀ p x3 x4 y u, l_ok u → l_an (XLaRe_readCondition_j48 x1 p x3 x4 y u) u := fun p x3 x4 y u ou => by
    unfold XLaRe_readCondition_j48
    by_cases d1 : y = 124
    · rw [if_pos d1]
      by_cases d2 : p = 0
      · exact ⟨_, by rw [if_pos d2], lK_refl _, ou⟩
      · rw [if_neg d2]
        obtain ⟨t, f1, f2, f3⟩ := l_add 124 0 _ ou
        rw [f1]
        exact ⟨t, rfl, f2, f3⟩
    · exact ⟨_, by rw [if_neg d1], lK_refl _, ou⟩
  have j73 : ∀ p x4 y u, l_ok u → ∃ q u9, XLaRe_readCondition_j73 x1 p x4 y u = some (q, u9) ∧ l_K u u9 ∧ l_ok u9 := fun p x4 y u ou => by
    unfold XLaRe_readCondition_j73
    by_cases d1 : y = 38
    · rw [if_pos d1]
      obtain ⟨t, f1, f2, f3⟩ := l_add 38 0 u ou
      rw [f1]
      exact ⟨p, t, rfl, f2, f3⟩
    · exact ⟨1, u, by rw [if_neg d1], lK_refl _, ou⟩
  have e48 : XLaRe_readCondition_j48_1 = XLaRe_readCondition_j48 := by
    funext a b c d e u
    unfold XLaRe_readCondition_j48_1 XLaRe_readCondition_j48
    rfl
  have e73 : XLaRe_readCondition_j73_1 = XLaRe_readCondition_j73 := by
    funext a b c d u
    unfold XLaRe_readCondition_j73_1 XLaRe_readCondition_j73
    rfl
  obtain ⟨⟨w, t⟩, c1, c2, c3⟩ := z_for (fun n k (a : Int32 × Int32 × ax_S) => XLaRe_readCondition_l18 rec n x1 a.1 a.2.1 (nI k) a.2.2) 240 (fun k a => l_K s1 a.2.2 ∧ l_ok a.2.2) (fun b => l_K s1 b.2 ∧ l_ok b.2) (fun n a ha => ⟨(a.1, a.2.2), by
      show XLaRe_readCondition_l18 rec (n + 1) x1 a.1 a.2.1 (nI 240) a.2.2 = _
      rw [XLaRe_readCondition_l18]
      exact if_pos (by decide), ha⟩) (fun n k a hk ha => by
      obtain ⟨p, x3, u⟩ := a
      show (∃ b, XLaRe_readCondition_l18 rec (n + 1) x1 p x3 (nI k) u = some b ∧ _) ∨ ∃ a' : Int32 × Int32 × ax_S, XLaRe_readCondition_l18 rec (n + 1) x1 p x3 (nI k) u = XLaRe_readCondition_l18 rec n x1 a'.1 a'.2.1 (nI (k + 1)) a'.2.2 ∧ _
      have ha1 : l_K s1 u := ha.1
      have ha2 : l_ok u := ha.2
      rw [XLaRe_readCondition_l18, if_neg (by rw [q_240, z_le (by omega) (by omega)]; omega), e48, e73]
      obtain ⟨u4, f1, f2, f3⟩ := j48 p x3 (nI k) x3 (XTa_step u) (lok_K (l_step u) ha2)
      obtain ⟨u5, g1, g2, g3⟩ := h u4 f3
      obtain ⟨q, u8, i1, i2, i3⟩ := j73 p (nI k) x3 u5 g3
      obtain ⟨v9, k1⟩ := a_peek u8
      simp only [f1, g1, i1, k1, z_1]
      by_cases d1 : x3 = 38
      · exact Or.inr ⟨(q, v9, u8), by rw [if_pos d1], lK_tr ha1 (lK_tr (lK_of (l_step u)) (lK_tr f2 (lK_tr g2 i2))), i3⟩
      · rw [if_neg d1]
        by_cases d2 : x3 = 124
        · exact Or.inr ⟨(q, v9, u8), by rw [if_pos d2], lK_tr ha1 (lK_tr (lK_of (l_step u)) (lK_tr f2 (lK_tr g2 i2))), i3⟩
        · exact Or.inl ⟨(p, u), by rw [if_neg d2], ha1, ha2⟩) 70000 0 (0, v2, s1) (by omega) ⟨lK_refl _, a3⟩ (by omega)
  have c1 : XLaRe_readCondition_l18 rec 70000 x1 0 v2 0 s1 = some (w, t) := c1
  simp only [c1]
  by_cases d : w = 0
  · exact ⟨t, by simp only [d, if_true], lK_tr a2 c2, c3⟩
  · obtain ⟨u, f1, f2, f3⟩ := l_add 124 0 t c3
    simp only [d, if_false, f1]
    exact ⟨u, rfl, lK_tr a2 (lK_tr c2 f2), f3⟩
/-- enough fuel for a depth: the reader always answers -/
theorem la_rec : ∀ n d, d ≤ 6 → (22 - 3 * d ≤ n → ∀ b s, l_ok s → l_an (XLaRe_rec n 0 (nI d) b s) s) ∧ (21 - 3 * d ≤ n → ∀ b s, l_ok s → l_an (XLaRe_rec n 1 (nI d) b s) s) ∧ (20 - 3 * d ≤ n → ∀ v s, l_ok s → l_an (XLaRe_rec n 2 v (nI d) s) s) ∧ (14 - 2 * d ≤ n → ∀ b s, l_ok s → l_an (XLaRe_rec n 3 (nI d) b s) s) ∧ (13 - 2 * d ≤ n → ∀ b s, l_ok s → l_an (XLaRe_rec n 4 (nI d) b s) s) := by
  intro n
  induction n with
  | zero => intro d hd; exact ⟨fun h => by omega, fun h => by omega, fun h => by omega, fun h => by omega, fun h => by omega⟩
  | succ n ih =>
    intro d hd
    obtain ⟨i0, i1, i2, i3, i4⟩ := ih d hd
    refine ⟨fun h b s o => ?_, fun h b s o => ?_, fun h v s o => ?_, fun h b s o => ?_, fun h b s o => ?_⟩
    · exact la_cond (XLaRe_rec n) (nI d) (fun s o => i1 (by omega) 0 s o) s o
    · exact la_test (XLaRe_rec n) (nI d) (fun v s o => i2 (by omega) v s o) (fun s o => i3 (by omega) 0 s o) s o
    · exact la_open (XLaRe_rec n) v d hd (fun h6 s o => (ih (d + 1) (by omega)).2.1 (by omega) 0 s o) (fun h6 s o => (ih (d + 1) (by omega)).1 (by omega) 0 s o) s o
    · exact la_sum (XLaRe_rec n) (nI d) (fun s o => i4 (by omega) 0 s o) s o
    · exact la_fact (XLaRe_rec n) d hd (fun h6 s o => (ih (d + 1) (by omega)).2.2.2.1 (by omega) 0 s o) s o
