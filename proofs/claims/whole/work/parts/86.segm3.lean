/-! law: not and the jumps of the reference's code -/
theorem l_sgM_not {F : Nat → Int32} {i m D : Nat} {A : (Nat → Int32) → Option Int32} (hA : l_sgM F i m A D) (h0 : F (i + m) = l_cd 10 0) : l_sgM F i (m + 1) (fun E => (A E).map fun v => 1 - v) (max D 1) := by
  intro s h e n hF he he2 hh
  obtain ⟨c1, c2⟩ := l_cd1 (k := 10) (p := 0) (by omega) (by omega)
  rw [show n + (m + 1) = n + 1 + m by omega, show i + (m + 1) = i + m + 1 by omega]
  show (∃ t n2, _ ∧ (A (y_e (s.2.1 80))).map _ = _ ∧ _) ∨ ((A (y_e (s.2.1 80))).map _ = none ∧ _)
  rcases hA s h e (n + 1) (fun q h1 h2 => hF q h1 (by omega)) (by omega) he2 (by omega) with ⟨t, n2, a0, a1, a2, a3, a4⟩ | ⟨a1, t, a2, a3⟩
  · obtain ⟨n3, rfl⟩ : ∃ x, n2 = x + 1 := ⟨n2 - 1, by omega⟩
    rw [a1, a2]
    have f1 : t.2.1 74 (i + m) = l_cd 10 0 := by rw [a3 74 (by omega), hF _ (by omega) (by omega)]; exact h0
    have e1 : nI (h + 1) - 1 = nI h := z_sub (a := h + 1) (b := 1) (by omega)
    refine Or.inl ⟨ax_sI t 79 h (1 - t.2.1 79 h), n3, by omega, by rw [r_Ie, r_u]; rfl, ?_, fun c hc => by rw [r_I hc, a3 c hc], fun q hq => by rw [r_one _ _ (by omega), a4 q hq]⟩
    rw [M_comesTo_l16, if_neg (by rw [z_le (by omega) (by omega)]; omega), if_neg (l_in (k := i + m) (N := 260) (by omega) (by omega)), if_neg (l_in (k := i + m) (N := 260) (by omega) (by omega)), z_cl (a := i + m) (by omega), f1, c2, c1, e1, if_neg (show ¬ nI 10 = 0 by decide), if_neg (show ¬ nI 10 = 1 by decide), if_pos (show nI 10 = 10 from rfl), if_neg (l_in (k := h) (N := 260) (by omega) (by omega)), if_neg (l_in (k := h) (N := 260) (by omega) (by omega)), z_cl (a := h) (by omega), z_1]
  · rw [a1, a2]
    exact Or.inr ⟨rfl, t, rfl, a3⟩
theorem l_sgM_jmp {F : Nat → Int32} {i m1 m2 k c D1 D2 : Nat} {A B : (Nat → Int32) → Option Int32} (hA : l_sgM F i m1 A D1) (hB : l_sgM F (i + m1 + 1) m2 B D2) (h0 : F (i + m1) = l_cd k (i + m1 + 1 + m2)) (hk : (k = 11 ∧ c = 38) ∨ (k = 12 ∧ c = 124)) (hb : ∀ E, A E = none ∨ A E = some 0 ∨ A E = some 1) : l_sgM F i (m1 + 1 + m2) (fun E => l_join c (A E) (B E)) (max (max D1 D2) 1) := by
  intro s h e n hF he he2 hh
  obtain ⟨c1, c2⟩ := l_cd1 (k := k) (p := i + m1 + 1 + m2) (by omega) (by omega)
  rw [show n + (m1 + 1 + m2) = n + m2 + 1 + m1 by omega, show i + (m1 + 1 + m2) = i + m1 + 1 + m2 by omega]
  show (∃ t n2, _ ∧ l_join c (A (y_e (s.2.1 80))) (B (y_e (s.2.1 80))) = _ ∧ _) ∨ (l_join c (A (y_e (s.2.1 80))) (B (y_e (s.2.1 80))) = none ∧ _)
  rcases hA s h e (n + m2 + 1) (fun q h1 h2 => hF q h1 (by omega)) (by omega) he2 (by omega) with ⟨t, n2, a0, a1, a2, a3, a4⟩ | ⟨a1, t, a2, a3⟩
  · obtain ⟨n3, rfl⟩ : ∃ x, n2 = x + m2 + 1 := ⟨n2 - m2 - 1, by omega⟩
    have f1 : t.2.1 74 (i + m1) = l_cd k (i + m1 + 1 + m2) := by rw [a3 74 (by omega), hF _ (by omega) (by omega)]; exact h0
    have e1 : nI (h + 1) - 1 = nI h := z_sub (a := h + 1) (b := 1) (by omega)
    -- the jump's step
    have st : M_comesTo_l16 (n3 + m2 + 1) (nI e) (nI (h + 1)) 0 (nI (i + m1)) t = if t.2.1 79 h = (if k = 12 then 1 else 0) then M_comesTo_l16 (n3 + m2) (nI e) (nI (h + 1)) 0 (nI (i + m1 + 1 + m2)) t else M_comesTo_l16 (n3 + m2) (nI e) (nI h) 0 (nI (i + m1 + 1)) t := by
      rw [M_comesTo_l16, if_neg (by rw [z_le (by omega) (by omega)]; omega), if_neg (l_in (k := i + m1) (N := 260) (by omega) (by omega)), if_neg (l_in (k := i + m1) (N := 260) (by omega) (by omega)), z_cl (a := i + m1) (by omega), f1, c2, c1, e1]
      rcases hk with ⟨rfl, -⟩ | ⟨rfl, -⟩
      · rw [if_neg (show ¬ nI 11 = 0 by decide), if_neg (show ¬ nI 11 = 1 by decide), if_neg (show ¬ nI 11 = 10 by decide), if_pos (show nI 11 = 11 from rfl), if_neg (l_in (k := h) (N := 260) (by omega) (by omega)), z_cl (a := h) (by omega), z_1, z_0add]
        rfl
      · rw [if_neg (show ¬ nI 12 = 0 by decide), if_neg (show ¬ nI 12 = 1 by decide), if_neg (show ¬ nI 12 = 10 by decide), if_neg (show ¬ nI 12 = 11 by decide), if_pos (show nI 12 = 12 from rfl), if_neg (l_in (k := h) (N := 260) (by omega) (by omega)), z_cl (a := h) (by omega), z_1, z_0add]
        rfl
    rw [a2, st]
    have goB : l_join c (A (y_e (s.2.1 80))) (B (y_e (s.2.1 80))) = B (y_e (s.2.1 80)) → (∃ (t' : ax_S) (n2 : Nat), n ≤ n2 ∧ l_join c (A (y_e (s.2.1 80))) (B (y_e (s.2.1 80))) = some (t'.2.1 79 h) ∧ M_comesTo_l16 (n3 + m2) (nI e) (nI h) 0 (nI (i + m1 + 1)) t = M_comesTo_l16 n2 (nI e) (nI (h + 1)) 0 (nI (i + m1 + 1 + m2)) t' ∧ (∀ c, c ≠ 79 → t'.2.1 c = s.2.1 c) ∧ ∀ q, q < h → t'.2.1 79 q = s.2.1 79 q) ∨ (l_join c (A (y_e (s.2.1 80))) (B (y_e (s.2.1 80))) = none ∧ ∃ t' : ax_S, M_comesTo_l16 (n3 + m2) (nI e) (nI h) 0 (nI (i + m1 + 1)) t = some (0, t') ∧ ∀ c, c ≠ 79 → t'.2.1 c = s.2.1 c) := fun ej => by
      rw [ej]
      rcases hB t h e n3 (fun q h1 h2 => by rw [a3 74 (by omega)]; exact hF q (by omega) (by omega)) (by omega) he2 (by omega) with ⟨u, n4, b0, b1, b2, b3, b4⟩ | ⟨b1, u, b2, b3⟩
      · rw [a3 80 (by omega)] at b1
        exact Or.inl ⟨u, n4, by omega, b1, b2, fun c hc => by rw [b3 c hc, a3 c hc], fun q hq => by rw [b4 q hq, a4 q hq]⟩
      · rw [a3 80 (by omega)] at b1
        exact Or.inr ⟨b1, u, b2, fun c hc => by rw [b3 c hc, a3 c hc]⟩
    have goA : l_join c (A (y_e (s.2.1 80))) (B (y_e (s.2.1 80))) = A (y_e (s.2.1 80)) → (∃ (t' : ax_S) (n2 : Nat), n ≤ n2 ∧ l_join c (A (y_e (s.2.1 80))) (B (y_e (s.2.1 80))) = some (t'.2.1 79 h) ∧ M_comesTo_l16 (n3 + m2) (nI e) (nI (h + 1)) 0 (nI (i + m1 + 1 + m2)) t = M_comesTo_l16 n2 (nI e) (nI (h + 1)) 0 (nI (i + m1 + 1 + m2)) t' ∧ (∀ c, c ≠ 79 → t'.2.1 c = s.2.1 c) ∧ ∀ q, q < h → t'.2.1 79 q = s.2.1 79 q) := fun ej => ⟨t, n3 + m2, by omega, by rw [ej]; exact a1, rfl, a3, a4⟩
    have hv : t.2.1 79 h = 0 ∨ t.2.1 79 h = 1 := by
      rcases hb (y_e (s.2.1 80)) with x | x | x
      · rw [x] at a1; cases a1
      · rw [x] at a1; exact Or.inl (Option.some.inj a1).symm
      · rw [x] at a1; exact Or.inr (Option.some.inj a1).symm
    rcases hk with ⟨rfl, rfl⟩ | ⟨rfl, rfl⟩
    · rcases hv with v | v
      · rw [if_pos (by rw [v]; rfl)]
        exact Or.inl (goA (by unfold l_join; rw [if_pos rfl, a1, v, if_neg (by decide)]))
      · rw [if_neg (by rw [v]; decide)]
        exact goB (by unfold l_join; rw [if_pos rfl, a1, v, if_pos rfl])
    · rcases hv with v | v
      · rw [if_neg (by rw [v]; decide)]
        exact goB (by unfold l_join; rw [if_neg (by decide), if_pos rfl, a1, v, if_pos rfl])
      · rw [if_pos (by rw [v]; rfl)]
        exact Or.inl (goA (by unfold l_join; rw [if_neg (by decide), if_pos rfl, a1, v, if_neg (by decide)]))
  · rw [a2]
    refine Or.inr ⟨?_, t, rfl, a3⟩
    rw [a1]
    unfold l_join
    rcases hk with ⟨rfl, rfl⟩ | ⟨rfl, rfl⟩
    · rw [if_pos rfl, if_neg (by decide)]
    · rw [if_neg (by decide), if_pos rfl, if_neg (by decide)]
