/-! a day: the slip, on both sides -/
theorem d_seed (x : Nat) (hx : x ≤ 65535) : ((25173 : Int32) * nI x + 13849) &&& 65535 = nI ((25173 * x + 13849) % 65536) ∧ (25173 * nI x + 13849) - (25173 * nI x + 13849) / 65536 * 65536 = nI ((25173 * x + 13849) % 65536) := by
  have e : (25173 : Int32) * nI x + 13849 = nI (25173 * x + 13849) := by rw [q_25173, q_13849, pk_mul, nI_add]
  rw [e]
  refine ⟨?_, z_rem (a := 25173 * x + 13849) (d := 65536) (by omega) (by omega) (by omega)⟩
  exact pk_andN (n := 25173 * x + 13849) (by omega) 16 (by decide)
theorem d_slip3 {f : Nat → Nat → Int32} (hL : y_law f) {s t : ax_S} (hX : y_sX f s) (hM : y_sM f t) {d x : Nat} (hd : d ≤ 9999) (hx : x ≤ 65535) (h6 : s.2.1 3 6 = nI x) (h290 : t.2.1 64 290 = nI x) (h289 : t.2.1 64 289 = nI d) (h13 : s.2.1 36 13 = nI (d % 100)) :
    ∃ σ s7 t13 v14 t15, σ ≤ 1 ∧ XSt_slip_3_36 s = some (nI σ, s7) ∧ s7.2.1 3 6 = nI ((25173 * x + 13849) % 65536) ∧ s7.2.1 3 8 = s.2.1 3 8 + nI σ ∧ (∀ c j, ¬ (c = 3 ∧ (j = 6 ∨ j = 8)) → ¬ (c = 36 ∧ 9 ≤ j ∧ j ≤ 14) → s7.2.1 c j = s.2.1 c j) ∧
      M_dayGoes_l129 70000 0 t = some t13 ∧ t13.2.1 64 289 = nI d ∧ M_byLaw 104 10 (ax_sI t13 80 4 (nI (d % 100))) = some (v14, t15) ∧ (∀ c, c ≠ 79 → c ≠ 80 → t15.2.1 c = t.2.1 c) ∧ (∀ u, M_dayGoes_j214 (nI ((25173 * x + 13849) % 65536) - nI ((25173 * x + 13849) % 65536) / 10 * 10) v14 u = some (nI σ)) := by
  obtain ⟨t13, a1, a2, a3⟩ : ∃ t13, M_dayGoes_l129 70000 0 t = some t13 ∧ (∀ j, j < 6 → t13.2.1 80 j = 0) ∧ ∀ c, c ≠ 80 → t13.2.1 c = t.2.1 c := by
    obtain ⟨b, h1, h2⟩ := z_for (fun n k (a : ax_S) => M_dayGoes_l129 n (nI k) a) 6 (fun k a => (∀ j, j < k → a.2.1 80 j = 0) ∧ ∀ c, c ≠ 80 → a.2.1 c = t.2.1 c) (fun b => (∀ j, j < 6 → b.2.1 80 j = 0) ∧ ∀ c, c ≠ 80 → b.2.1 c = t.2.1 c) (fun n a ha => ⟨a, by
        show M_dayGoes_l129 (n + 1) (nI 6) a = some a
        rw [M_dayGoes_l129]
        exact if_pos (by decide), ha⟩) (fun n k a hk ha => Or.inr ⟨ax_sI a 80 k 0, by
        show M_dayGoes_l129 (n + 1) (nI k) a = M_dayGoes_l129 n (nI (k + 1)) _
        rw [M_dayGoes_l129]
        simp (disch := omega) only [q_6, z_1, z_cl, z_lt0, z_le, z_nle, if_false, or_self], by
        refine ⟨fun j hj => ?_, fun c hc => ?_⟩
        · rw [r_Ie]
          by_cases hjk : j = k
          · subst hjk; rw [r_u]
          · rw [r_un hjk]; exact ha.1 j (by omega)
        · rw [r_I hc]; exact ha.2 c hc⟩) 70000 0 t (by omega) ⟨fun j hj => absurd hj (Nat.not_lt_zero _), fun _ _ => rfl⟩ (by omega)
    exact ⟨b, h1, h2⟩
  obtain ⟨sd1, sd2⟩ := d_seed x hx
  generalize hS : XLa_setPerson_36 0 0 0 0 0 (ax_sI s 3 6 (nI ((25173 * x + 13849) % 65536))) = S0
  have S1 : ∀ c j, ¬ (c = 3 ∧ j = 6) → ¬ (c = 36 ∧ 9 ≤ j ∧ j ≤ 14) → S0.2.1 c j = s.2.1 c j := fun c j e1 e2 => by
    rw [← hS]; unfold XLa_setPerson_36
    rw [r_one c j (by omega), r_two c j (by omega) (by omega), r_two c j (by omega) (by omega), r_one c j e1]
  have S2 : S0.2.1 3 6 = nI ((25173 * x + 13849) % 65536) := by
    rw [← hS]; unfold XLa_setPerson_36
    simp (disch := omega) only [r_I, r_Ie, r_u]
  have S3 : ∀ j, j < 6 → S0.2.1 36 (9 + j) = if j = 4 then nI (d % 100) else 0 := fun j hj => by
    rw [← hS]; unfold XLa_setPerson_36
    have h : j = 0 ∨ j = 1 ∨ j = 2 ∨ j = 3 ∨ j = 4 ∨ j = 5 := by omega
    rcases h with rfl | rfl | rfl | rfl | rfl | rfl
    all_goals simp (disch := omega) only [Nat.reduceAdd, r_Ie, r_un, r_u, r_I, h13, if_true, if_false]
    all_goals rfl
  obtain ⟨k, s2, t15, k0, b1, b2, b3, b4⟩ := y_ask hL 104 (by decide) 10 (by omega) (tX := S0) (tM := ax_sI t13 80 4 (nI (d % 100))) (fun c j hc => by rw [S1 c j (by omega) (by omega)]; exact hX c j hc) (fun c j hc => by rw [r_I (by omega), a3 c (by omega)]; exact hM c j hc) (by
    funext i
    unfold y_e
    by_cases hi : i < 6
    · rw [if_pos hi, if_pos hi]
      show S0.2.1 36 (9 + i) = _
      rw [S3 i hi]
      by_cases h4 : i = 4
      · subst h4; rw [if_pos rfl, r_Ie, r_u]
      · rw [if_neg h4, r_one 80 i (by omega), a2 i hi]
    · rw [if_neg hi, if_neg hi])
  have b1 : XLa_ask_36 104 10 S0 = some (nI k, s2) := b1
  have b3 : M_byLaw 104 10 (ax_sI t13 80 4 (nI (d % 100))) = some (nI k, t15) := b3
  have e10 : nI ((25173 * x + 13849) % 65536) - nI ((25173 * x + 13849) % 65536) / 10 * 10 = nI ((25173 * x + 13849) % 65536 % 10) := z_rem (a := (25173 * x + 13849) % 65536) (d := 10) (by omega) (by omega) (by omega)
  have hslip : XSt_slip_3_36 s = if k ≤ (25173 * x + 13849) % 65536 % 10 then some (0, s2) else some (1, ax_sI s2 3 8 (s2.2.1 3 8 + 1)) := by
    unfold XSt_slip_3_36
    rw [h6, sd1, hS, b1]
    unfold XSt_slip_3_36_j43
    simp only [S2, e10]
    have hk : nI k ≤ nI ((25173 * x + 13849) % 65536 % 10) ↔ k ≤ (25173 * x + 13849) % 65536 % 10 := by rw [z_le (by omega) (by omega)]
    by_cases c : k ≤ (25173 * x + 13849) % 65536 % 10
    · simp only [if_pos c, if_pos (hk.mpr c), if_true]
      rfl
    · simp only [if_neg c, if_neg (fun e => c (hk.mp e)), z_10, if_false]
      rfl
  have hj : ∀ u, M_dayGoes_j214 (nI ((25173 * x + 13849) % 65536) - nI ((25173 * x + 13849) % 65536) / 10 * 10) (nI k) u = if k ≤ (25173 * x + 13849) % 65536 % 10 then some 0 else some 1 := fun u => by
    unfold M_dayGoes_j214
    rw [e10]
    have hk : nI k ≤ nI ((25173 * x + 13849) % 65536 % 10) ↔ k ≤ (25173 * x + 13849) % 65536 % 10 := by rw [z_le (by omega) (by omega)]
    by_cases c : k ≤ (25173 * x + 13849) % 65536 % 10
    · rw [if_pos c, if_pos (hk.mpr c)]
    · rw [if_neg c, if_neg (fun e => c (hk.mp e))]
  have fM : ∀ c, c ≠ 79 → c ≠ 80 → t15.2.1 c = t.2.1 c := fun c e1 e2 => by rw [b4 c e1, r_I e2, a3 c e2]
  by_cases c : k ≤ (25173 * x + 13849) % 65536 % 10
  · rw [if_pos c] at hslip
    refine ⟨0, s2, t13, nI k, t15, by omega, hslip, by rw [b2]; exact S2, ?_, fun c j e1 e2 => by rw [b2]; exact S1 c j (by omega) e2, a1, by rw [a3 _ (by omega)]; exact h289, b3, fM, fun u => by rw [hj u, if_pos c]; rfl⟩
    rw [b2, S1 3 8 (by omega) (by omega)]
    exact (Int32.add_zero _).symm
  · rw [if_neg c] at hslip
    refine ⟨1, _, t13, nI k, t15, by omega, hslip, by rw [r_one _ _ (by omega), b2]; exact S2, ?_, fun c j e1 e2 => by rw [r_one c j (by omega), b2]; exact S1 c j (by omega) e2, a1, by rw [a3 _ (by omega)]; exact h289, b3, fM, fun u => by rw [hj u, if_neg c]; rfl⟩
    rw [r_Ie, r_u, b2, S1 3 8 (by omega) (by omega)]
    rfl
