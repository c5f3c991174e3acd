/-! who is left out by the law, on both sides -/
theorem y_left {f : Nat → Nat → Int32} (hL : y_law f) {tX tM : ax_S} (hX : y_sX f tX) (hM : y_sM f tM) (he : y_e (fun i => tX.2.1 36 (9 + i)) = y_e (tM.2.1 80)) :
    ∃ v t1 t2, (v = 0 ∨ v = 1) ∧ XLa_isLeftOut_36 tX = some (v, t1) ∧ t1.2.1 = tX.2.1 ∧ M_holdsAny 99 tM = some (v, t2) ∧ ∀ c, c ≠ 79 → t2.2.1 c = tM.2.1 c := by
  obtain ⟨R, cv, ev, hR, e1, e2, e3, e4, e5⟩ := hL
  generalize hE : y_e (tM.2.1 80) = E at he
  have sX : ∀ t : ax_S, t.2.1 = tX.2.1 → y_sX f t := fun t ht c j hc => by rw [ht]; exact hX c j hc
  have sM : ∀ t : ax_S, (∀ c, c ≠ 79 → t.2.1 c = tM.2.1 c) → y_sM f t := fun t ht c j hc => by rw [ht c (by omega)]; exact hM c j hc
  have r7 : ∀ t : ax_S, t.2.1 = tX.2.1 → t.2.1 36 7 = nI R := fun t ht => by rw [ht, hX 36 7 (Or.inr ⟨rfl, Or.inl rfl⟩)]; exact e1
  have r14 : ∀ t : ax_S, (∀ c, c ≠ 79 → t.2.1 c = tM.2.1 c) → t.2.1 63 14 = nI R := fun t ht => by rw [ht 63 (by omega), hM 63 14 (Or.inr ⟨rfl, rfl⟩)]; exact e2
  have r37 : ∀ t : ax_S, t.2.1 = tX.2.1 → ∀ q, t.2.1 37 q = f 37 q := fun t ht q => by rw [ht]; exact hX 37 q (Or.inl (by omega))
  have r75 : ∀ t : ax_S, (∀ c, c ≠ 79 → t.2.1 c = tM.2.1 c) → ∀ q, q < R → t.2.1 75 q = f 37 q := fun t ht q hq => by rw [ht 75 (by omega), hM 75 q (Or.inl (by omega))]; exact (e3 q hq).symm
  -- one rule asked
  have qX : ∀ t : ax_S, t.2.1 = tX.2.1 → ∀ q, q < R → ∃ t1, XLa_holds_36 (nI q) t = some ((if cv q E = true then 1 else 0), t1) ∧ t1.2.1 = tX.2.1 := fun t ht q hq => by
    obtain ⟨⟨t1, h1, h2⟩, -⟩ := e4 q hq t (sX t ht)
    refine ⟨t1, ?_, h2.trans ht⟩
    rw [h1]
    have : y_e (fun i => t.2.1 36 (9 + i)) = E := by rw [ht]; exact he
    rw [this]
  have qM : ∀ t : ax_S, (∀ c, c ≠ 79 → t.2.1 c = tM.2.1 c) → ∀ q, q < R → ∃ v t1, M_comesTo (t.2.1 77 q) (t.2.1 78 q) t = some (v, t1) ∧ (∀ c, c ≠ 79 → t1.2.1 c = tM.2.1 c) ∧ (v = 1 ↔ cv q E = true) := fun t ht q hq => by
    obtain ⟨⟨v, t1, h1, h2, h3⟩, -⟩ := e5 q hq t (sM t ht)
    refine ⟨v, t1, h1, fun c hc => by rw [h2 c hc, ht c hc], ?_⟩
    rw [ht 80 (by omega), hE] at h3
    exact h3
  -- a step over a rule that is not taken
  have stX : ∀ n q (t : ax_S), t.2.1 = tX.2.1 → q < R → ¬ (f 37 q = 99 ∧ cv q E = true) → ∃ t1, XLa_isLeftOut_36_l2 (n + 1) (nI q) t = XLa_isLeftOut_36_l2 n (nI (q + 1)) t1 ∧ t1.2.1 = tX.2.1 := fun n q t ht hq hP => by
    rw [XLa_isLeftOut_36_l2, r7 t ht, if_neg (by rw [z_le (by omega) (by omega)]; omega), if_neg (by rw [q_16, z_le (by omega) (by omega)]; omega)]
    simp (disch := omega) only [z_cl, z_lt0, z_nle, or_self, if_false, r37 t ht]
    by_cases c : f 37 q = 99
    · rw [if_pos c]
      obtain ⟨t1, h1, h2⟩ := qX t ht q hq
      rw [h1, if_neg (fun h => hP ⟨c, h⟩)]
      simp only [if_true, z_1]
      exact ⟨t1, rfl, h2⟩
    · rw [if_neg c, z_1]
      exact ⟨t, rfl, ht⟩
  have stM : ∀ n q (t : ax_S), (∀ c, c ≠ 79 → t.2.1 c = tM.2.1 c) → q < R → ¬ (f 37 q = 99 ∧ cv q E = true) → ∃ t1, M_holdsAny_l2 (n + 1) 99 (nI q) t = M_holdsAny_l2 n 99 (nI (q + 1)) t1 ∧ ∀ c, c ≠ 79 → t1.2.1 c = tM.2.1 c := fun n q t ht hq hP => by
    rw [M_holdsAny_l2, r14 t ht, if_neg (by rw [z_le (by omega) (by omega)]; omega)]
    simp (disch := omega) only [z_cl, z_lt0, z_nle, or_self, if_false]
    rw [r75 t ht q hq]
    by_cases c : f 37 q = 99
    · rw [if_pos c]
      obtain ⟨v, t1, h1, h2, h3⟩ := qM t ht q hq
      rw [h1]
      have hv : ¬ v = 1 := fun e => hP ⟨c, h3.mp e⟩
      simp only [hv, if_false, z_1]
      exact ⟨t1, rfl, h2⟩
    · rw [if_neg c, z_1]
      exact ⟨t, rfl, ht⟩
  rcases t_first (fun q => f 37 q = 99 ∧ cv q E = true) R with ⟨q, hq, hP, hmin⟩ | hnone
  · obtain ⟨⟨v1, t1⟩, h1, h0, h2⟩ := z_for (fun n j (t : ax_S) => XLa_isLeftOut_36_l2 n (nI j) t) q (fun j t => t.2.1 = tX.2.1) (fun b => b.1 = 1 ∧ b.2.2.1 = tX.2.1) (fun n t ht => by
        show ∃ b, XLa_isLeftOut_36_l2 (n + 1) (nI q) t = some b ∧ _
        rw [XLa_isLeftOut_36_l2, r7 t ht, if_neg (by rw [z_le (by omega) (by omega)]; omega), if_neg (by rw [q_16, z_le (by omega) (by omega)]; omega)]
        simp (disch := omega) only [z_cl, z_lt0, z_nle, or_self, if_false, r37 t ht]
        obtain ⟨t1, h1, h2⟩ := qX t ht q hq
        rw [if_pos hP.1, h1, if_pos hP.2]
        simp only [z_10, if_false]
        exact ⟨_, rfl, rfl, h2⟩) (fun n j t hj ht => Or.inr (stX n j t ht (by omega) (hmin j hj))) 70000 0 tX (by omega) rfl (by omega)
    obtain ⟨⟨v2, t2⟩, g1, g0, g2⟩ := z_for (fun n j (t : ax_S) => M_holdsAny_l2 n 99 (nI j) t) q (fun j t => ∀ c, c ≠ 79 → t.2.1 c = tM.2.1 c) (fun b => b.1 = 1 ∧ ∀ c, c ≠ 79 → b.2.2.1 c = tM.2.1 c) (fun n t ht => by
        show ∃ b, M_holdsAny_l2 (n + 1) 99 (nI q) t = some b ∧ _
        rw [M_holdsAny_l2, r14 t ht, if_neg (by rw [z_le (by omega) (by omega)]; omega)]
        simp (disch := omega) only [z_cl, z_lt0, z_nle, or_self, if_false]
        rw [r75 t ht q hq, if_pos hP.1]
        obtain ⟨v, t1, h1, h2, h3⟩ := qM t ht q hq
        rw [h1, h3.mpr hP.2]
        simp only [if_true]
        exact ⟨_, rfl, rfl, h2⟩) (fun n j t hj ht => Or.inr (stM n j t ht (by omega) (hmin j hj))) 70000 0 tM (by omega) (fun _ _ => rfl) (by omega)
    have h0 : v1 = 1 := h0
    have g0 : v2 = 1 := g0
    subst h0 g0
    refine ⟨1, t1, t2, Or.inr rfl, ?_, h2, ?_, g2⟩
    · unfold XLa_isLeftOut_36
      have h1 : XLa_isLeftOut_36_l2 70000 0 tX = some (1, t1) := h1
      rw [h1]
    · unfold M_holdsAny
      have g1 : M_holdsAny_l2 70000 99 0 tM = some (1, t2) := g1
      rw [g1]
  · obtain ⟨⟨v1, t1⟩, h1, h0, h2⟩ := z_for (fun n j (t : ax_S) => XLa_isLeftOut_36_l2 n (nI j) t) R (fun j t => t.2.1 = tX.2.1) (fun b => b.1 = 0 ∧ b.2.2.1 = tX.2.1) (fun n t ht => by
        show ∃ b, XLa_isLeftOut_36_l2 (n + 1) (nI R) t = some b ∧ _
        rw [XLa_isLeftOut_36_l2, r7 t ht, if_pos (by rw [z_le (by omega) (by omega)]; omega)]
        exact ⟨_, rfl, rfl, ht⟩) (fun n j t hj ht => Or.inr (stX n j t ht hj (hnone j hj))) 70000 0 tX (by omega) rfl (by omega)
    obtain ⟨⟨v2, t2⟩, g1, g0, g2⟩ := z_for (fun n j (t : ax_S) => M_holdsAny_l2 n 99 (nI j) t) R (fun j t => ∀ c, c ≠ 79 → t.2.1 c = tM.2.1 c) (fun b => b.1 = 0 ∧ ∀ c, c ≠ 79 → b.2.2.1 c = tM.2.1 c) (fun n t ht => by
        show ∃ b, M_holdsAny_l2 (n + 1) 99 (nI R) t = some b ∧ _
        rw [M_holdsAny_l2, r14 t ht, if_pos (by rw [z_le (by omega) (by omega)]; omega)]
        exact ⟨_, rfl, rfl, ht⟩) (fun n j t hj ht => Or.inr (stM n j t ht hj (hnone j hj))) 70000 0 tM (by omega) (fun _ _ => rfl) (by omega)
    have h0 : v1 = 0 := h0
    have g0 : v2 = 0 := g0
    subst h0 g0
    refine ⟨0, t1, t2, Or.inl rfl, ?_, h2, ?_, g2⟩
    · unfold XLa_isLeftOut_36
      have h1 : XLa_isLeftOut_36_l2 70000 0 tX = some (0, t1) := h1
      rw [h1]
    · unfold M_holdsAny
      have g1 : M_holdsAny_l2 70000 99 0 tM = some (0, t2) := g1
      rw [g1]
