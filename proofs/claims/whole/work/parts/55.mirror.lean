/-! mirror -/
theorem X_turn_eq {s : ax_S} {F : z_V} (ha : v_at s.2.1 5 F) (hv : v_val F) : ∃ s', XFi_turnOver_4 s = some s' ∧ (∀ i, i < 12 → s'.2.1 6 i = if F 0 i = -1 then F 1 i else nI (16 - (v_n F 1 i + v_n F 3 i))) ∧ (∀ c, c ≠ 6 → s'.2.1 c = s.2.1 c) := by
  unfold XFi_turnOver_4
  obtain ⟨b, g1, g2⟩ := z_for (fun n k (a : ax_S) => XFi_turnOver_4_l2 n (nI k) a) 12 (fun k a => (∀ i, i < k → a.2.1 6 i = if F 0 i = -1 then F 1 i else nI (16 - (v_n F 1 i + v_n F 3 i))) ∧ (∀ i, k ≤ i → a.2.1 6 i = s.2.1 6 i) ∧ (∀ c, c ≠ 6 → a.2.1 c = s.2.1 c)) (fun a => (∀ i, i < 12 → a.2.1 6 i = if F 0 i = -1 then F 1 i else nI (16 - (v_n F 1 i + v_n F 3 i))) ∧ (∀ c, c ≠ 6 → a.2.1 c = s.2.1 c)) (fun n a h => ⟨a, by
      show XFi_turnOver_4_l2 (n + 1) (nI 12) a = some a
      rw [XFi_turnOver_4_l2]
      exact if_pos (by decide), h.1, h.2.2⟩) (fun n k a hk h => Or.inr (by
      show ∃ a', XFi_turnOver_4_l2 (n + 1) (nI k) a = XFi_turnOver_4_l2 n (nI (k + 1)) a' ∧ _
      have e0 : a.2.1 5 k = F 0 k := by rw [h.2.2 5 (by omega)]; exact ha 0 k (by omega) hk
      have e1 : a.2.1 6 k = F 1 k := by rw [h.2.1 k (Nat.le_refl _)]; exact ha 1 k (by omega) hk
      have e3 : a.2.1 8 k = F 3 k := by rw [h.2.2 8 (by omega)]; exact ha 3 k (by omega) hk
      rw [XFi_turnOver_4_l2]
      simp (disch := omega) only [q_12, z_le, z_nle, z_cl, z_lt0, z_1, if_false, or_self]
      rw [e0, e1, e3]
      by_cases t : F 0 k = -1
      · refine ⟨a, by rw [if_pos t], fun i hi => ?_, fun i hi => h.2.1 i (by omega), h.2.2⟩
        rcases Nat.lt_or_eq_of_le (Nat.lt_succ_iff.mp hi) with z | rfl
        · exact h.1 i z
        · rw [if_pos t]; exact e1
      · rw [if_neg t]
        rcases hv k hk with c | c
        · exact absurd c t
        have hb := c.2.2.2.2.2.2.2.2.1
        rw [c.2.1, c.2.2.2.1, q_16, z_sub (by omega), z_sub (by omega)]
        refine ⟨_, rfl, fun i hi => ?_, fun i hi => by rw [r_Ie, r_un (by omega)]; exact h.2.1 i (by omega), fun c hc => by rw [r_I hc]; exact h.2.2 c hc⟩
        rw [r_Ie]
        by_cases e : i = k
        · subst e
          rw [r_u, if_neg t, Nat.sub_sub]
        · rw [r_un e]; exact h.1 i (by omega))) 70000 0 s (by omega) ⟨fun i hi => absurd hi (Nat.not_lt_zero _), fun _ _ => rfl, fun _ _ => rfl⟩ (by omega)
  have g1 : XFi_turnOver_4_l2 70000 0 s = some b := g1
  rw [g1]
  exact ⟨b, rfl, g2⟩
def mi_c (F : z_V) (k : Nat) : Nat := fb_ct (fun i => !decide (F 0 i = -1)) k
theorem M_mir_eq {s : ax_S} {F : z_V} (ha : v_aM s.2.1 F) (hv : v_val F) : ∃ s', M_mirror s = some (nI (mi_c F 12), s') ∧ (∀ i, i < 12 → s'.2.1 64 (12 + i) = if F 0 i = -1 then F 1 i else nI (16 - (v_n F 1 i + v_n F 3 i))) ∧ (∀ c j, ¬ (c = 64 ∧ 12 ≤ j ∧ j < 24) → s'.2.1 c j = s.2.1 c j) := by
  unfold M_mirror
  obtain ⟨b, g1, g2⟩ := z_for (fun n k (a : Nat × ax_S) => M_mirror_l4 n (nI a.1) (nI k) a.2) 12 (fun k a => a.1 = mi_c F k ∧ (∀ i, i < k → a.2.2.1 64 (12 + i) = if F 0 i = -1 then F 1 i else nI (16 - (v_n F 1 i + v_n F 3 i))) ∧ (∀ c j, ¬ (c = 64 ∧ 12 ≤ j ∧ j < 12 + k) → a.2.2.1 c j = s.2.1 c j)) (fun v => v.1 = nI (mi_c F 12) ∧ (∀ i, i < 12 → v.2.2.1 64 (12 + i) = if F 0 i = -1 then F 1 i else nI (16 - (v_n F 1 i + v_n F 3 i))) ∧ (∀ c j, ¬ (c = 64 ∧ 12 ≤ j ∧ j < 24) → v.2.2.1 c j = s.2.1 c j)) (fun n a h => ⟨(nI a.1, a.2), by
      show M_mirror_l4 (n + 1) (nI a.1) (nI 12) a.2 = some (nI a.1, a.2)
      rw [M_mirror_l4]
      exact if_pos (by decide), by rw [h.1], h.2⟩) (fun n k a hk h => Or.inr (by
      obtain ⟨v, a⟩ := a
      obtain ⟨h1, h2, h3⟩ := h
      dsimp only at h1 h2 h3
      show ∃ a' : Nat × ax_S, M_mirror_l4 (n + 1) (nI v) (nI k) a = M_mirror_l4 n (nI a'.1) (nI (k + 1)) a'.2 ∧ _
      have e0 : a.2.1 64 k = F 0 k := by rw [h3 64 k (by omega)]; have := ha 0 k (by omega) hk; rwa [Nat.mul_zero, Nat.zero_add] at this
      have e1 : vM a.2.1 64 1 k = F 1 k := by unfold vM; rw [h3 64 _ (by omega)]; exact ha 1 k (by omega) hk
      have e3 : vM a.2.1 64 3 k = F 3 k := by unfold vM; rw [h3 64 _ (by omega)]; exact ha 3 k (by omega) hk
      rw [M_mirror_l4, M_fig_eq a k hk, M_right_eq a k hk, e0, e1, e3]
      simp (disch := omega) only [q_12, nI_add, z_le, z_nle, z_cl, z_lt0, z_1, if_false, or_self]
      by_cases t : F 0 k = -1
      · refine ⟨(v, a), by simp [t], ?_, fun i hi => ?_, fun c j hc => h3 c j (by omega)⟩
        · show v = mi_c F k + (if (!decide (F 0 k = -1)) = true then 1 else 0)
          rw [decide_eq_true t]
          exact h1
        · rcases Nat.lt_or_eq_of_le (Nat.lt_succ_iff.mp hi) with z | rfl
          · exact h2 i z
          · rw [if_pos t]; exact e1
      · simp only [t, if_false, z_10]
        rcases hv k hk with c | c
        · exact absurd c t
        have hb := c.2.2.2.2.2.2.2.2.1
        rw [c.2.1, c.2.2.2.1, nI_add, q_16, z_sub (by omega)]
        refine ⟨(v + 1, ax_sI a 64 (12 + k) (nI (16 - (v_n F 1 k + v_n F 3 k)))), rfl, ?_, fun i hi => ?_, fun c j hc => ?_⟩
        · show v + 1 = mi_c F k + (if (!decide (F 0 k = -1)) = true then 1 else 0)
          rw [decide_eq_false t, h1]
          rfl
        · dsimp only
          rw [r_Ie]
          by_cases e : i = k
          · subst e; rw [r_u, if_neg t]
          · rw [r_un (by omega)]; exact h2 i (by omega)
        · dsimp only
          rw [r_one c j (by omega)]
          exact h3 c j (by omega))) 70000 0 (0, s) (by omega) ⟨rfl, fun i hi => absurd hi (Nat.not_lt_zero _), fun _ _ _ => rfl⟩ (by omega)
  have g1 : M_mirror_l4 70000 0 0 s = some b := g1
  obtain ⟨v, b⟩ := b
  obtain ⟨h1, h2⟩ := g2
  dsimp only at h1 h2
  rw [g1, h1]
  exact ⟨b, rfl, h2⟩
theorem mi_pop {s : ax_S} {F : z_V} (h0 : ∀ i, i < 12 → s.2.1 5 i = F 0 i) : XFi_howMany_4 s = some (nI (mi_c F 12)) := by
  unfold XFi_howMany_4
  rw [XFi_bits_4_eq]
  have e : z_or (g_B (s.2.1 5)) 12 = nI (z_nor (fun i => if F 0 i = -1 then 0 else 2 ^ i) 12) := z_orE 12 fun i hi => by
    unfold g_B
    rw [h0 i hi]
    by_cases t : F 0 i = -1
    · rw [if_pos t, if_pos t]; rfl
    · rw [if_neg t, if_neg t, x_shl i (by omega)]
  have hlt : z_nor (fun i => if F 0 i = -1 then 0 else 2 ^ i) 12 < 65536 := z_nor_lt 12 fun i hi => by
    split
    · omega
    · exact x_plt (by omega)
  rw [e]
  simp only []
  rw [x_bc hlt]
  congr 2
  have hb : ∀ k, (z_nor (fun i => if F 0 i = -1 then 0 else 2 ^ i) 12).testBit k = true ↔ k < 12 ∧ ¬ F 0 k = -1 := fun k => by
    rw [z_nor_tb]
    constructor
    · rintro ⟨i, hi, e⟩
      by_cases t : F 0 i = -1
      · rw [if_pos t] at e; simp at e
      · rw [if_neg t, x_pow] at e
        have := of_decide_eq_true e
        subst this
        exact ⟨hi, t⟩
    · rintro ⟨hk, t⟩
      exact ⟨k, hk, by rw [if_neg t, x_pow]; simp⟩
  unfold x_pop mi_c
  rw [sn_ext _ (a := 12) (n := 16) (by omega) fun k q1 _ => by
    cases e : (z_nor (fun i => if F 0 i = -1 then 0 else 2 ^ i) 12).testBit k with
    | false => rfl
    | true => have := ((hb k).mp e).1; omega]
  refine fb_ct_cong fun k hk => ?_
  have := hb k
  by_cases t : F 0 k = -1
  · rw [decide_eq_true t]
    cases e : (z_nor (fun i => if F 0 i = -1 then 0 else 2 ^ i) 12).testBit k with
    | false => rfl
    | true => exact absurd t ((hb k).mp e).2
  · rw [decide_eq_false t]
    exact (hb k).mpr ⟨hk, t⟩
theorem y_mirror (s : ax_S) (h : y_inv s.2.1) : y_sim X_mirror M_mirror s := by
  have hR : v_R (vX s.2.1 5) (vM s.2.1 64) := h.1.1
  have hv := v_R_val hR
  have h0 : ∀ i, i < 12 → s.2.1 5 i = vM s.2.1 64 0 i := fun i hi => (h.1.1 i hi).1
  obtain ⟨s1, e1, e2, e3⟩ := X_turn_eq (v_at_vX s.2.1 5) (v_R_valX hR)
  obtain ⟨s2, f1, f2, f3⟩ := M_mir_eq (s := s1) (F := vM s.2.1 64) (fun k i hk hi => by rw [e3 64 (by omega)]; rfl) hv
  refine ⟨_, s1, s2, ?_, f1, ?_⟩
  · unfold X_mirror
    rw [e1]
    simp only []
    rw [mi_pop (s := s1) (F := vM s.2.1 64) fun i hi => by rw [e3 5 (by omega)]; exact h0 i hi]
  · have fr : ∀ c j, ¬ (c = 64 ∧ 12 ≤ j ∧ j < 24) → c ≠ 6 → s2.2.1 c j = s.2.1 c j := fun c j q1 q2 => by rw [f3 c j q1, e3 c q2]
    refine g_oth h ⟨fun i hi => ?_, g_Ps h.1.2.1 (fun k i hk _ => fr _ _ (by omega) (by omega)) (fun j _ hj => fr _ _ (by omega) (by omega)), g_Al h.1.2.2.1 (fun i _ => fr _ _ (by omega) (by omega)) (fun j _ hj => fr _ _ (by omega) (by omega)), g_Dy h.1.2.2.2 (fr _ _ (by omega) (by omega)) (fr _ _ (by omega) (by omega)) (fun j _ hj => fr _ _ (by omega) (by omega))⟩ fun c j k => fr c j (by omega) (by omega)
    have g0 : vX s2.2.1 5 0 i = vX s.2.1 5 0 i := fr 5 i (by omega) (by omega)
    have g2 : vX s2.2.1 5 2 i = vX s.2.1 5 2 i := fr 7 i (by omega) (by omega)
    have g3 : vX s2.2.1 5 3 i = vX s.2.1 5 3 i := fr 8 i (by omega) (by omega)
    have g4 : vX s2.2.1 5 4 i = vX s.2.1 5 4 i := fr 9 i (by omega) (by omega)
    have m0 : vM s2.2.1 64 0 i = vM s.2.1 64 0 i := fr 64 (12 * 0 + i) (by omega) (by omega)
    have m2 : vM s2.2.1 64 2 i = vM s.2.1 64 2 i := fr 64 (12 * 2 + i) (by omega) (by omega)
    have m3 : vM s2.2.1 64 3 i = vM s.2.1 64 3 i := fr 64 (12 * 3 + i) (by omega) (by omega)
    have m4 : vM s2.2.1 64 4 i = vM s.2.1 64 4 i := fr 64 (12 * 4 + i) (by omega) (by omega)
    show vX s2.2.1 5 0 i = vM s2.2.1 64 0 i ∧ (vM s2.2.1 64 0 i = -1 ∨ (v_ok (vM s2.2.1 64) i ∧ vX s2.2.1 5 1 i = vM s2.2.1 64 1 i ∧ vX s2.2.1 5 2 i = vM s2.2.1 64 2 i ∧ vX s2.2.1 5 3 i = vM s2.2.1 64 3 i ∧ vX s2.2.1 5 4 i = vM s2.2.1 64 4 i))
    unfold v_ok
    rw [g0, g2, g3, g4, m0, m2, m3, m4]
    refine ⟨(hR i hi).1, ?_⟩
    by_cases t : vM s.2.1 64 0 i = -1
    · exact Or.inl t
    · have er := v_R_told hR hi t
      have m1 : vM s2.2.1 64 1 i = nI (16 - (v_n (vM s.2.1 64) 1 i + v_n (vM s.2.1 64) 3 i)) := by
        have := f2 i hi
        rw [if_neg t] at this
        exact this
      have g1 : vX s2.2.1 5 1 i = nI (16 - (v_n (vM s.2.1 64) 1 i + v_n (vM s.2.1 64) 3 i)) := by
        have q := e2 i hi
        rw [er 0 (by omega), if_neg t, e_vn hR hi t (show 1 < 5 by omega), e_vn hR hi t (show 3 < 5 by omega)] at q
        rw [← q]
        exact congrFun (funext fun j => f3 6 j (by omega)) i
      rcases hv i hi with c | c
      · exact absurd c t
      rw [m1, g1]
      exact Or.inr ⟨⟨v_n (vM s.2.1 64) 0 i, 16 - (v_n (vM s.2.1 64) 1 i + v_n (vM s.2.1 64) 3 i), v_n (vM s.2.1 64) 2 i, v_n (vM s.2.1 64) 3 i, v_n (vM s.2.1 64) 4 i, c.2.2.2.2.2.1, c.2.2.2.2.2.2.1, c.2.2.2.2.2.2.2.1, by have := c.2.2.2.2.2.2.2.2.1; omega, c.2.2.2.2.2.2.2.2.2, c.1, rfl, c.2.2.1, c.2.2.2.1, c.2.2.2.2.1⟩, rfl, er 2 (by omega), er 3 (by omega), er 4 (by omega)⟩
