/-! law: pieces of the reference's code, put together -/
def l_kd (k c : Nat) : Prop := (k = 2 ∧ c = 43) ∨ (k = 3 ∧ c = 45) ∨ (k = 4 ∧ c = 42) ∨ (k = 5 ∧ c = 47) ∨ (k = 6 ∧ c = 37) ∨ (k = 7 ∧ c = 60) ∨ (k = 8 ∧ c = 62) ∨ (k = 9 ∧ c = 61)
theorem l_jn {k c : Nat} (hk : l_kd k c) (a b : Option Int32) : l_join c a b = match a, b with
    | some x, some y => l_op c x y
    | _, _ => none := by
  unfold l_join
  rw [if_neg (by rcases hk with ⟨-, rfl⟩ | ⟨-, rfl⟩ | ⟨-, rfl⟩ | ⟨-, rfl⟩ | ⟨-, rfl⟩ | ⟨-, rfl⟩ | ⟨-, rfl⟩ | ⟨-, rfl⟩ <;> decide), if_neg (by rcases hk with ⟨-, rfl⟩ | ⟨-, rfl⟩ | ⟨-, rfl⟩ | ⟨-, rfl⟩ | ⟨-, rfl⟩ | ⟨-, rfl⟩ | ⟨-, rfl⟩ | ⟨-, rfl⟩ <;> decide)]
  cases a <;> cases b <;> rfl
theorem l_rk {k c : Nat} (hk : l_kd k c) (x y : Int32) (s : ax_S) (h0 : (k = 5 ∨ k = 6) → ¬ y = 0) : ∃ v, l_op c x y = some v ∧ M_reckon (nI k) x y s = some v := by
  rcases hk with ⟨rfl, rfl⟩ | ⟨rfl, rfl⟩ | ⟨rfl, rfl⟩ | ⟨rfl, rfl⟩ | ⟨rfl, rfl⟩ | ⟨rfl, rfl⟩ | ⟨rfl, rfl⟩ | ⟨rfl, rfl⟩
  · exact ⟨_, rfl, rfl⟩
  · exact ⟨_, rfl, rfl⟩
  · exact ⟨_, rfl, rfl⟩
  · have hy := h0 (by omega)
    refine ⟨x / y, ?_, ?_⟩
    · show (if y = 0 then none else some (x / y)) = _
      rw [if_neg hy]
    · show (if y = 0 then none else some (x / y)) = _
      rw [if_neg hy]
  · have hy := h0 (by omega)
    refine ⟨x - x / y * y, ?_, ?_⟩
    · show (if y = 0 then none else some (x - x / y * y)) = _
      rw [if_neg hy]
    · show (if y = 0 then none else some (x - x / y * y)) = _
      rw [if_neg hy]
  · by_cases c : y ≤ x
    · exact ⟨0, if_pos c, if_pos c⟩
    · exact ⟨1, if_neg c, if_neg c⟩
  · by_cases c : x ≤ y
    · exact ⟨0, if_pos c, if_pos c⟩
    · exact ⟨1, if_neg c, if_neg c⟩
  · by_cases c : x = y
    · exact ⟨1, if_pos c, if_pos c⟩
    · exact ⟨0, if_neg c, if_neg c⟩
/-- one code that joins two: kinds 2 to 9 -/
theorem l_stM {k c : Nat} (hk : l_kd k c) (s : ax_S) (h e i n : Nat) (hi : i < e) (he : e ≤ 260) (hh : h + 2 ≤ 260) (f1 : s.2.1 74 i = l_cd k 0) :
    (∃ v, l_op c (s.2.1 79 h) (s.2.1 79 (h + 1)) = some v ∧ M_comesTo_l16 (n + 1) (nI e) (nI (h + 2)) 0 (nI i) s = M_comesTo_l16 n (nI e) (nI (h + 1)) 0 (nI (i + 1)) (ax_sI s 79 h v)) ∨ (l_op c (s.2.1 79 h) (s.2.1 79 (h + 1)) = none ∧ M_comesTo_l16 (n + 1) (nI e) (nI (h + 2)) 0 (nI i) s = some (0, s)) := by
  have k9 : 2 ≤ k ∧ k ≤ 9 := by unfold l_kd at hk; omega
  obtain ⟨c1, c2⟩ := l_cd1 (k := k) (p := 0) (by omega) (by omega)
  have e1 : nI (h + 2) - 1 = nI (h + 1) := z_sub (a := h + 2) (b := 1) (by omega)
  have e2 : nI (h + 1) - 1 = nI h := z_sub (a := h + 1) (b := 1) (by omega)
  have ne : ∀ j, j < 20 → j ≠ k → ¬ nI k = nI j := fun j hj hjk => by rw [z_eq (by omega) (by omega)]; omega
  rw [M_comesTo_l16, if_neg (by rw [z_le (by omega) (by omega)]; omega), if_neg (l_in (k := i) (N := 260) (by omega) (by omega)), if_neg (l_in (k := i) (N := 260) (by omega) (by omega)), z_cl (a := i) (by omega), f1, c2, c1, e1, e2, if_neg (show ¬ nI k = 0 from ne 0 (by omega) (by omega)), if_neg (show ¬ nI k = 1 from ne 1 (by omega) (by omega)), if_neg (show ¬ nI k = 10 from ne 10 (by omega) (by omega)), if_neg (show ¬ nI k = 11 from ne 11 (by omega) (by omega)), if_neg (show ¬ nI k = 12 from ne 12 (by omega) (by omega)), z_cl (a := h) (by omega), z_cl (a := h + 1) (by omega)]
  have g0 : ¬ (nI h < 0 ∨ 260 ≤ h) := by rintro (x | x); exact nI_pos (by omega) x; omega
  have g1 : ¬ (nI (h + 1) < 0 ∨ 260 ≤ h + 1) := by rintro (x | x); exact nI_pos (by omega) x; omega
  have hop : s.2.1 79 (h + 1) = 0 → (k = 5 ∨ k = 6) → l_op c (s.2.1 79 h) (s.2.1 79 (h + 1)) = none := fun z hk2 => by
    rcases hk with ⟨rfl, rfl⟩ | ⟨rfl, rfl⟩ | ⟨rfl, rfl⟩ | ⟨rfl, rfl⟩ | ⟨rfl, rfl⟩ | ⟨rfl, rfl⟩ | ⟨rfl, rfl⟩ | ⟨rfl, rfl⟩
    all_goals first | omega | (rw [z]; rfl)
  by_cases k5 : k = 5 ∨ k = 6
  · by_cases z : s.2.1 79 (h + 1) = 0
    · refine Or.inr ⟨hop z k5, ?_⟩
      rcases k5 with rfl | rfl
      · rw [if_pos (show nI 5 = 5 from rfl), if_neg g1, if_pos z]
      · rw [if_neg (show ¬ nI 6 = 5 by decide), if_pos (show nI 6 = 6 from rfl), if_neg g1, if_pos z]
    · obtain ⟨v, v1, v2⟩ := l_rk hk (s.2.1 79 h) (s.2.1 79 (h + 1)) s (fun _ => z)
      refine Or.inl ⟨v, v1, ?_⟩
      rcases k5 with rfl | rfl
      · rw [if_pos (show nI 5 = 5 from rfl), if_neg g1, if_neg z, if_neg g0, if_neg g1, v2]
        simp only [if_neg g0, z_1]
      · rw [if_neg (show ¬ nI 6 = 5 by decide), if_pos (show nI 6 = 6 from rfl), if_neg g1, if_neg z, if_neg g0, if_neg g1, v2]
        simp only [if_neg g0, z_1]
  · obtain ⟨v, v1, v2⟩ := l_rk hk (s.2.1 79 h) (s.2.1 79 (h + 1)) s (fun x => absurd x k5)
    refine Or.inl ⟨v, v1, ?_⟩
    rw [if_neg (show ¬ nI k = 5 from ne 5 (by omega) (by omega)), if_neg (show ¬ nI k = 6 from ne 6 (by omega) (by omega)), if_neg g0, if_neg g1, v2]
    simp only [if_neg g0, z_1]
theorem l_sgM_op {F : Nat → Int32} {i m1 m2 k c D1 D2 : Nat} {A B : (Nat → Int32) → Option Int32} (hA : l_sgM F i m1 A D1) (hB : l_sgM F (i + m1) m2 B D2) (h0 : F (i + m1 + m2) = l_cd k 0) (hk : l_kd k c) : l_sgM F i (m1 + m2 + 1) (fun E => l_join c (A E) (B E)) (max (max D1 (D2 + 1)) 2) := by
  intro s h e n hF he he2 hh
  rw [show n + (m1 + m2 + 1) = n + 1 + m2 + m1 by omega, show i + (m1 + m2 + 1) = i + m1 + m2 + 1 by omega]
  show (∃ t n2, _ ∧ l_join c (A (y_e (s.2.1 80))) (B (y_e (s.2.1 80))) = _ ∧ _) ∨ (l_join c (A (y_e (s.2.1 80))) (B (y_e (s.2.1 80))) = none ∧ _)
  simp only [l_jn hk]
  rcases hA s h e (n + 1 + m2) (fun q h1 h2 => hF q h1 (by omega)) (by omega) he2 (by omega) with ⟨t, n2, a0, a1, a2, a3, a4⟩ | ⟨a1, t, a2, a3⟩
  · obtain ⟨n3, rfl⟩ : ∃ x, n2 = x + 1 + m2 := ⟨n2 - m2 - 1, by omega⟩
    rw [a1, a2]
    rcases hB t (h + 1) e (n3 + 1) (fun q h1 h2 => by rw [a3 74 (by omega)]; exact hF q (by omega) (by omega)) (by omega) he2 (by omega) with ⟨u, n4, b0, b1, b2, b3, b4⟩ | ⟨b1, u, b2, b3⟩
    · obtain ⟨n5, rfl⟩ : ∃ x, n4 = x + 1 := ⟨n4 - 1, by omega⟩
      rw [a3 80 (by omega)] at b1
      rw [b1, b2]
      have f1 : u.2.1 74 (i + m1 + m2) = l_cd k 0 := by rw [b3 74 (by omega), a3 74 (by omega), hF _ (by omega) (by omega)]; exact h0
      rcases l_stM hk u h e (i + m1 + m2) n5 (by omega) he2 (by omega) f1 with ⟨v, w1, w2⟩ | ⟨w1, w2⟩
      · rw [b4 h (by omega)] at w1
        refine Or.inl ⟨ax_sI u 79 h v, n5, by omega, by rw [r_Ie, r_u]; exact w1, w2, fun c hc => by rw [r_I hc, b3 c hc, a3 c hc], fun q hq => by rw [r_one _ _ (by omega), b4 q (by omega), a4 q hq]⟩
      · rw [b4 h (by omega)] at w1
        exact Or.inr ⟨w1, u, w2, fun c hc => by rw [b3 c hc, a3 c hc]⟩
    · rw [a3 80 (by omega)] at b1
      rw [b1, b2]
      exact Or.inr ⟨rfl, u, rfl, fun c hc => by rw [b3 c hc, a3 c hc]⟩
  · rw [a1, a2]
    exact Or.inr ⟨rfl, t, rfl, a3⟩
