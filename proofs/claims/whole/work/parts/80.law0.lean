/-! law: the class's reader always answers, and keeps a fault -/
def l_K (s t : ax_S) : Prop := (s.2.1 1 5 ≠ 0 → t.2.1 1 5 = s.2.1 1 5) ∧ ∀ c j, ¬ (c = 1 ∧ (j = 3 ∨ j = 4 ∨ j = 5)) → ¬ (c = 44 ∧ j = 8) → c ≠ 49 → c ≠ 50 → t.2.1 c j = s.2.1 c j
def l_ok (s : ax_S) : Prop := ∃ k, k ≤ 256 ∧ s.2.1 44 8 = nI k
def l_an (r : Option ax_S) (s : ax_S) : Prop := ∃ t, r = some t ∧ l_K s t ∧ l_ok t
theorem lK_refl (s : ax_S) : l_K s s := ⟨fun _ => rfl, fun _ _ _ _ _ _ => rfl⟩
theorem lK_tr {s t u : ax_S} (h : l_K s t) (h2 : l_K t u) : l_K s u :=
  ⟨fun e => by have := h.1 e; rw [h2.1 (by rw [this]; exact e), this], fun c j a b d e => by rw [h2.2 c j a b d e, h.2 c j a b d e]⟩
theorem lK_of {s t : ax_S} (h : t_K s t) : l_K s t := ⟨h.1, fun c j a _ _ _ => h.2 c j a⟩
theorem lok_K {s t : ax_S} (h : t_K s t) (o : l_ok s) : l_ok t := by
  obtain ⟨k, h1, h2⟩ := o
  exact ⟨k, h1, by rw [h.2 _ _ (by omega)]; exact h2⟩
theorem l_add (x y : Int32) (s : ax_S) (o : l_ok s) : l_an (XLa_add_44 x y s) s := by
  obtain ⟨k, h1, h2⟩ := o
  unfold XLa_add_44 l_an
  rw [h2]
  by_cases c : k = 256
  · subst c
    exact ⟨s, by rw [if_pos (by decide)], lK_refl s, 256, by omega, h2⟩
  · rw [if_neg (by rw [q_256, z_le (by omega) (by omega)]; omega)]
    simp (disch := omega) only [z_cl, z_lt0, z_nle, or_self, if_false, z_1]
    refine ⟨_, rfl, ⟨fun _ => ?_, fun c j a b d e => ?_⟩, k + 1, by omega, ?_⟩
    · rw [r_one 1 5 (by omega), r_two 1 5 (by omega) (by omega)]
    · rw [r_one c j (by omega), r_two c j (by omega) (by omega)]
    · rw [r_Ie, r_u]
theorem l_step (s : ax_S) : t_K s (XTa_step s) := K_3 _ _
theorem la_fact (rec : Nat → Int32 → Int32 → ax_S → Option ax_S) (d : Nat) (hd : d ≤ 6) (h : d < 6 → ∀ s, l_ok s → l_an (rec 3 (nI (d + 1)) 0 s) s) (s : ax_S) (o : l_ok s) : l_an (XLaRe_readFactor rec (nI d) s) s := by
  unfold XLaRe_readFactor
  obtain ⟨v, hv⟩ := a_peek s
  rw [hv]
  simp only []
  have add : ∀ x y, l_an (match XLa_add_44 x y s with
      | none => none
      | some s2 => some (XTa_step s2)) s := fun x y => by
    obtain ⟨t, e1, e2, e3⟩ := l_add x y s o
    rw [e1]
    exact ⟨_, rfl, lK_tr e2 (lK_of (l_step t)), lok_K (l_step t) e3⟩
  have ref : l_an (some (XTa_refuse 1 s)) s := ⟨_, rfl, lK_of (K_ref _ _ _), lok_K (K_ref _ _ _) o⟩
  by_cases c : v = 91
  · rw [if_pos c]
    by_cases c2 : nI d < 6
    · rw [if_pos c2]
      have d6 : d < 6 := by rw [q_6, z_lt (by omega) (by omega)] at c2; exact c2
      rw [z_1]
      obtain ⟨t, e1, e2, e3⟩ := h d6 _ (lok_K (l_step s) o)
      rw [e1]
      obtain ⟨w, u, f1, f2⟩ := a_take 93 t
      simp only [f1]
      exact ⟨u, rfl, lK_tr (lK_of (l_step s)) (lK_tr e2 (lK_of f2)), lok_K f2 e3⟩
    · rw [if_neg c2]
      exact ⟨_, rfl, lK_of (K_ref _ _ _), lok_K (K_ref _ _ _) o⟩
  · rw [if_neg c]
    by_cases c2 : v < 48
    · rw [if_pos c2]
      by_cases c3 : XLa_isLetter v s = 0
      · rw [if_pos c3]; exact ref
      · rw [if_neg c3]; exact add _ _
    · rw [if_neg c2]
      by_cases c4 : 57 < v
      · rw [if_pos c4]
        by_cases c3 : XLa_isLetter v s = 0
        · rw [if_pos c3]; exact ref
        · rw [if_neg c3]; exact add _ _
      · rw [if_neg c4]
        obtain ⟨w, t, e1, e2⟩ := a_num 5 (by omega) s
        have e1 : XTa_readNumber 5 s = some (w, t) := e1
        rw [e1]
        obtain ⟨u, f1, f2, f3⟩ := l_add 0 w t (lok_K e2 o)
        simp only [f1]
        exact ⟨u, rfl, lK_tr (lK_of e2) f2, f3⟩
theorem la_sum (rec : Nat → Int32 → Int32 → ax_S → Option ax_S) (x1 : Int32) (h : ∀ s, l_ok s → l_an (rec 4 x1 0 s) s) (s : ax_S) (o : l_ok s) : l_an (XLaRe_readSum rec x1 s) s := by
  unfold XLaRe_readSum
  obtain ⟨s1, a1, a2, a3⟩ := h s o
  rw [a1]
  obtain ⟨v2, b1⟩ := a_peek s1
  simp only [b1]
  obtain ⟨⟨w, t⟩, c1, c2, c3⟩ := z_for (fun n k (a : Int32 × Int32 × ax_S) => XLaRe_readSum_l18 rec n x1 a.1 a.2.1 (nI k) a.2.2) 240 (fun k a => l_K s1 a.2.2 ∧ l_ok a.2.2) (fun b => l_K s1 b.2 ∧ l_ok b.2) (fun n a ha => ⟨(a.1, a.2.2), by
      show XLaRe_readSum_l18 rec (n + 1) x1 a.1 a.2.1 (nI 240) a.2.2 = _
      rw [XLaRe_readSum_l18]
      exact if_pos (by decide), ha⟩) (fun n k a hk ha => by
      obtain ⟨p, x3, u⟩ := a
      show (∃ b, XLaRe_readSum_l18 rec (n + 1) x1 p x3 (nI k) u = some b ∧ _) ∨ ∃ a' : Int32 × Int32 × ax_S, XLaRe_readSum_l18 rec (n + 1) x1 p x3 (nI k) u = XLaRe_readSum_l18 rec n x1 a'.1 a'.2.1 (nI (k + 1)) a'.2.2 ∧ _
      have ha1 : l_K s1 u := ha.1
      have ha2 : l_ok u := ha.2
      rw [XLaRe_readSum_l18, if_neg (by rw [q_240, z_le (by omega) (by omega)]; omega)]
      by_cases c : XLaRe_joinsNumbers x3 u = 0
      · exact Or.inl ⟨(p, u), by rw [if_pos c], ha1, ha2⟩
      · rw [if_neg c]
        generalize hy : XLaRe_readSum_j43 x1 p x3 (nI k) x3 (XTa_step u) = y
        obtain ⟨u5, e1, e2, e3⟩ : l_an (XLaRe_readSum_j61 x1 p x3 (nI k) y y (XTa_step u)) (XTa_step u) := by
          have o1 := lok_K (l_step u) ha2
          unfold XLaRe_readSum_j61
          by_cases d1 : y = 0
          · exact ⟨_, by rw [if_pos d1], lK_refl _, o1⟩
          · rw [if_neg d1]
            by_cases d2 : p = 0
            · exact ⟨_, by rw [if_pos d2], lK_refl _, o1⟩
            · rw [if_neg d2]
              obtain ⟨t, f1, f2, f3⟩ := l_add p 0 _ o1
              rw [f1]
              exact ⟨t, rfl, f2, f3⟩
        rw [e1]
        obtain ⟨u6, g1, g2, g3⟩ := h u5 e3
        simp only [g1]
        obtain ⟨q, u9, i1, i2, i3⟩ : ∃ q u9, XLaRe_readSum_j84 x1 p x3 (nI k) y u6 = some (q, u9) ∧ l_K u6 u9 ∧ l_ok u9 := by
          unfold XLaRe_readSum_j84
          by_cases d1 : y = 0
          · rw [if_pos d1]
            obtain ⟨t, f1, f2, f3⟩ := l_add x3 0 u6 g3
            rw [f1]
            exact ⟨p, t, rfl, f2, f3⟩
          · exact ⟨x3, u6, by rw [if_neg d1], lK_refl _, g3⟩
        obtain ⟨v10, j1⟩ := a_peek u9
        simp only [i1, j1, z_1]
        exact Or.inr ⟨(q, v10, u9), rfl, lK_tr ha1 (lK_tr (lK_of (l_step u)) (lK_tr e2 (lK_tr g2 i2))), i3⟩) 70000 0 (0, v2, s1) (by omega) ⟨lK_refl _, a3⟩ (by omega)
  have c1 : XLaRe_readSum_l18 rec 70000 x1 0 v2 0 s1 = some (w, t) := c1
  simp only [c1]
  by_cases d : w = 0
  · exact ⟨t, by simp only [d, if_true], lK_tr a2 c2, c3⟩
  · obtain ⟨u, f1, f2, f3⟩ := l_add w 0 t c3
    simp only [d, if_false, f1]
    exact ⟨u, rfl, lK_tr a2 (lK_tr c2 f2), f3⟩
