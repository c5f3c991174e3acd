/-! texts: the class's reader of the tape against the reference's -/
def t_ch (B : Nat → Nat) (n a : Nat) : Int32 := if a < n then nI (B a) else -1
def t_dg (B : Nat → Nat) (n a : Nat) : Bool := decide (a < n) && decide (48 ≤ B a) && decide (B a ≤ 57)
theorem t_dgT {B : Nat → Nat} {n a : Nat} : t_dg B n a = true ↔ a < n ∧ 48 ≤ B a ∧ B a ≤ 57 := by
  unfold t_dg; simp [and_assoc]
def t_X (B : Nat → Nat) (n a : Nat) (s : ax_S) : Prop := s.2.1 1 2 = nI n ∧ s.2.1 1 3 = nI a ∧ s.2.1 1 5 = 0 ∧ ∀ k, k < n → s.2.1 2 k = nI (B k)
def t_M (B : Nat → Nat) (n a : Nat) (s : ax_S) : Prop := s.2.1 63 7 = nI n ∧ s.2.1 63 6 = nI a ∧ ∀ k, s.2.1 67 k &&& 255 = nI (B k)
def t_K (s t : ax_S) : Prop := (s.2.1 1 5 ≠ 0 → t.2.1 1 5 = s.2.1 1 5) ∧ ∀ c j, ¬ (c = 1 ∧ (j = 3 ∨ j = 4 ∨ j = 5)) → t.2.1 c j = s.2.1 c j
def t_N (s t : ax_S) : Prop := ∀ c j, ¬ (c = 63 ∧ (j = 6 ∨ j = 8 ∨ j = 9)) → t.2.1 c j = s.2.1 c j
def t_fc (q p : Nat) : Int32 := (-1000) * nI q - nI p
def t_F (s t : ax_S) : Prop := ∃ q p, 1 ≤ q ∧ q ≤ 9 ∧ p ≤ 300 ∧ s.2.1 1 5 = t_fc q p ∧ t.2.1 63 8 = t_fc q p
theorem t_fc_eq (q p : Nat) : t_fc q p = nI 0 - nI (1000 * q + p) := by
  unfold t_fc
  rw [show (-1000 : Int32) = -nI 1000 from rfl, Int32.neg_mul, pk_mul, ← nI_add, nI_0, Int32.zero_sub, Int32.neg_add]
theorem t_fc_ne {q p : Nat} (h1 : 1 ≤ q) (h2 : q ≤ 9) (h3 : p ≤ 300) : t_fc q p ≠ 0 ∧ t_fc q p ≤ 0 := by
  have h := pk_sub_toInt (a := 0) (b := 1000 * q + p) (by omega) (by omega)
  rw [← t_fc_eq] at h
  have h0 : (0 : Int32).toInt = 0 := rfl
  refine ⟨fun e => ?_, Int32.le_iff_toInt_le.mpr (by rw [h, h0]; omega)⟩
  rw [e, h0] at h
  omega
theorem K_refl (s : ax_S) : t_K s s := ⟨fun _ => rfl, fun _ _ _ => rfl⟩
theorem K_tr {s t u : ax_S} (h : t_K s t) (h2 : t_K t u) : t_K s u :=
  ⟨fun e => by have := h.1 e; rw [h2.1 (by rw [this]; exact e), this], fun c j e => by rw [h2.2 c j e, h.2 c j e]⟩
theorem N_refl (s : ax_S) : t_N s s := fun _ _ _ => rfl
theorem N_tr {s t u : ax_S} (h : t_N s t) (h2 : t_N t u) : t_N s u := fun c j e => by rw [h2 c j e, h c j e]
theorem K_3 (s : ax_S) (x : Int32) : t_K s (ax_sI s 1 3 x) := ⟨fun _ => r_one 1 5 (by omega), fun c j e => r_one c j (by omega)⟩
theorem K_4 (s : ax_S) (x : Int32) : t_K s (ax_sI s 1 4 x) := ⟨fun _ => r_one 1 5 (by omega), fun c j e => r_one c j (by omega)⟩
theorem K_ref (q p : Int32) (s : ax_S) : t_K s (XTa_refuseAt q p s) := by
  unfold XTa_refuseAt
  by_cases h : s.2.1 1 5 = 0
  · rw [if_pos h]
    exact ⟨fun e => absurd h e, fun c j e => r_one c j (by omega)⟩
  · rw [if_neg h]; exact K_refl s
theorem N_6 (s : ax_S) (x : Int32) : t_N s (ax_sI s 63 6 x) := fun c j e => r_one c j (by omega)
theorem N_8 (s : ax_S) (x : Int32) : t_N s (ax_sI s 63 8 x) := fun c j e => r_one c j (by omega)
theorem N_9 (s : ax_S) (x : Int32) : t_N s (ax_sI s 63 9 x) := fun c j e => r_one c j (by omega)
theorem a_peek (s : ax_S) : ∃ v, XTa_peek s = some v := by
  unfold XTa_peek
  rcases pk_ix (s.2.1 1 3) (n := 260) (by decide) with h | h | ⟨j, hj, h⟩
  · exact ⟨_, if_pos h⟩
  · have h : (260 : Int32) ≤ s.2.1 1 3 := h
    by_cases h1 : s.2.1 1 3 < 0
    · exact ⟨_, if_pos h1⟩
    by_cases h2 : s.2.1 1 2 ≤ s.2.1 1 3
    · exact ⟨_, by rw [if_neg h1, if_pos h2]⟩
    · exact ⟨_, by rw [if_neg h1, if_neg h2, if_pos h]⟩
  · rw [h]
    by_cases h2 : s.2.1 1 2 ≤ nI j
    · exact ⟨_, by simp (disch := omega) only [z_lt0, if_false, h2, if_true]; rfl⟩
    · exact ⟨_, by simp (disch := omega) only [q_260, z_cl, z_lt0, z_le, z_nle, if_false, h2, or_self]; rfl⟩
theorem a_dig (s : ax_S) : ∃ v, XTa_isAtDigit s = some v := by
  unfold XTa_isAtDigit
  rcases pk_ix (s.2.1 1 3) (n := 260) (by decide) with h | h | ⟨j, hj, h⟩
  · exact ⟨_, if_pos h⟩
  · have h : (260 : Int32) ≤ s.2.1 1 3 := h
    by_cases h1 : s.2.1 1 3 < 0
    · exact ⟨_, if_pos h1⟩
    by_cases h2 : s.2.1 1 2 ≤ s.2.1 1 3
    · exact ⟨_, by rw [if_neg h1, if_pos h2]⟩
    · exact ⟨_, by rw [if_neg h1, if_neg h2, if_pos h]⟩
  · rw [h]
    by_cases h2 : s.2.1 1 2 ≤ nI j
    · exact ⟨_, by simp (disch := omega) only [z_lt0, if_false, h2, if_true]; rfl⟩
    · simp (disch := omega) only [q_260, z_cl, z_lt0, z_le, z_nle, if_false, h2, or_self]
      by_cases h3 : s.2.1 2 j < 48
      · exact ⟨_, if_pos h3⟩
      · rw [if_neg h3]
        by_cases h4 : 57 < s.2.1 2 j
        · exact ⟨_, if_pos h4⟩
        · exact ⟨_, if_neg h4⟩
theorem a_take (x : Int32) (s : ax_S) : ∃ v t, XTa_take x s = some (v, t) ∧ t_K s t := by
  obtain ⟨v, h⟩ := a_peek s
  unfold XTa_take
  rw [h]
  by_cases e : v = x
  · exact ⟨1, _, by simp only [e, if_true]; rfl, K_3 _ _⟩
  · exact ⟨0, _, by simp only [e, if_false]; rfl, K_ref _ _ _⟩
theorem a_num (m : Nat) (hm : m < 1000) (s : ax_S) : ∃ v t, XTa_readNumber (nI m) s = some (v, t) ∧ t_K s t := by
  obtain ⟨⟨v, t⟩, h1, h2⟩ := z_for (fun n k (a : Int32 × ax_S) => XTa_readNumber_l12 n (nI m) a.1 (nI k) a.2) m (fun k a => t_K s a.2) (fun b => t_K s b.2) (fun n a ha => ⟨a, by
      show XTa_readNumber_l12 (n + 1) (nI m) a.1 (nI m) a.2 = some a
      rw [XTa_readNumber_l12]
      exact if_pos (by rw [z_le (by omega) (by omega)]; omega), ha⟩) (fun n k a hk ha => by
      show (∃ b, XTa_readNumber_l12 (n + 1) (nI m) a.1 (nI k) a.2 = some b ∧ t_K s b.2) ∨ ∃ a' : Int32 × ax_S, XTa_readNumber_l12 (n + 1) (nI m) a.1 (nI k) a.2 = XTa_readNumber_l12 n (nI m) a'.1 (nI (k + 1)) a'.2 ∧ t_K s a'.2
      obtain ⟨v1, e1⟩ := a_dig a.2
      obtain ⟨v2, e2⟩ := a_peek a.2
      by_cases c : v1 = 0
      · exact Or.inl ⟨a, by rw [XTa_readNumber_l12, if_neg (by rw [z_le (by omega) (by omega)]; omega), e1]; simp only [c, if_true], ha⟩
      · exact Or.inr ⟨(10 * a.1 + v2 - 48, ax_sI a.2 1 3 (a.2.2.1 1 3 + 1)), by rw [XTa_readNumber_l12, if_neg (by rw [z_le (by omega) (by omega)]; omega), e1, e2, ← z_1]; simp only [c, if_false], K_tr ha (K_3 _ _)⟩) 70000 0 (0, ax_sI s 1 4 (s.2.1 1 3)) (by omega) (K_4 _ _) (by omega)
  have h1 : XTa_readNumber_l12 70000 (nI m) 0 0 (ax_sI s 1 4 (s.2.1 1 3)) = some (v, t) := h1
  have h2 : t_K s t := h2
  unfold XTa_readNumber
  rw [h1]
  obtain ⟨v1, e1⟩ := a_dig t
  by_cases c : t.2.1 1 3 = t.2.1 1 4
  · exact ⟨v, _, by simp only [c, if_true]; rfl, K_tr h2 (K_ref _ _ _)⟩
  · by_cases c2 : v1 = 0
    · exact ⟨v, t, by simp only [c, if_false, e1, c2, if_true], h2⟩
    · exact ⟨v, _, by simp only [c, if_false, e1, c2]; rfl, K_tr h2 (K_ref _ _ _)⟩
theorem a_within (x y : Int32) (s : ax_S) : ∃ v t, XPrRe_readWithin x y s = some (v, t) ∧ t_K s t := by
  obtain ⟨v, t, h, h2⟩ := a_num 2 (by omega) s
  have h : XTa_readNumber 2 s = some (v, t) := h
  unfold XPrRe_readWithin
  rw [h]
  by_cases c : v < x
  · exact ⟨v, _, by simp only [c, if_true]; rfl, K_tr h2 (K_ref _ _ _)⟩
  · by_cases c2 : v ≤ y
    · exact ⟨v, t, by simp only [c, if_false, c2, if_true], h2⟩
    · exact ⟨v, _, by simp only [c, if_false, c2]; rfl, K_tr h2 (K_ref _ _ _)⟩
theorem p_peek {B : Nat → Nat} {n a : Nat} {s : ax_S} (h : t_X B n a s) (hn : n ≤ 260) (ha : a ≤ 300) : XTa_peek s = some (t_ch B n a) := by
  obtain ⟨h1, h2, h3, h4⟩ := h
  unfold XTa_peek t_ch
  rw [h1, h2]
  by_cases c : a < n
  · simp (disch := omega) only [q_260, z_cl, z_lt0, z_le, z_nle, if_false, or_self, if_pos c]
    rw [h4 a c]
  · simp (disch := omega) only [z_lt0, z_le, if_false, if_neg c]
    rw [if_pos (by omega)]
theorem p_here {B : Nat → Nat} {n a : Nat} {s : ax_S} (h : t_M B n a s) (hn : n ≤ 260) (ha : a ≤ 300) : M_here s = some (t_ch B n a) := by
  obtain ⟨h1, h2, h4⟩ := h
  unfold M_here t_ch
  rw [h1, h2]
  by_cases c : a < n
  · simp (disch := omega) only [z_cl, z_lt0, z_le, z_nle, if_false, or_self, if_pos c]
    rw [h4 a]
  · simp (disch := omega) only [z_le, if_neg c]
    rw [if_pos (by omega)]
theorem p_dig {B : Nat → Nat} {n a : Nat} {s : ax_S} (h : t_X B n a s) (hB : ∀ k, B k < 256) (hn : n ≤ 260) (ha : a ≤ 300) : XTa_isAtDigit s = some (if t_dg B n a = true then 1 else 0) := by
  obtain ⟨h1, h2, h3, h4⟩ := h
  have hb := hB a
  unfold XTa_isAtDigit
  rw [h1, h2]
  by_cases c : a < n
  · simp (disch := omega) only [q_260, z_cl, z_lt0, z_le, z_nle, if_false, or_self]
    rw [h4 a c, show (48 : Int32) = nI 48 from rfl, show (57 : Int32) = nI 57 from rfl]
    simp (disch := omega) only [z_lt]
    by_cases c2 : B a < 48
    · rw [if_pos c2, if_neg (by rw [t_dgT]; omega)]
    · rw [if_neg c2]
      by_cases c3 : 57 < B a
      · rw [if_pos c3, if_neg (by rw [t_dgT]; omega)]
      · rw [if_neg c3, if_pos (by rw [t_dgT]; omega)]
  · simp (disch := omega) only [z_lt0, z_le, if_false]
    rw [if_pos (by omega), if_neg (by rw [t_dgT]; omega)]
theorem p_mdig {B : Nat → Nat} {n a : Nat} {s : ax_S} (h : t_M B n a s) (hB : ∀ k, B k < 256) (hn : n ≤ 260) (ha : a ≤ 300) : M_isDigit s = some (if t_dg B n a = true then 1 else 0) := by
  have hb := hB a
  unfold M_isDigit
  rw [p_here h hn ha]
  unfold t_ch
  by_cases c : a < n
  · simp only [if_pos c]
    rw [show (48 : Int32) = nI 48 from rfl, show (57 : Int32) = nI 57 from rfl]
    simp (disch := omega) only [z_lt]
    by_cases c2 : B a < 48
    · rw [if_pos c2, if_neg (by rw [t_dgT]; omega)]
    · rw [if_neg c2]
      by_cases c3 : 57 < B a
      · rw [if_pos c3, if_neg (by rw [t_dgT]; omega)]
      · rw [if_neg c3, if_pos (by rw [t_dgT]; omega)]
  · simp only [if_neg c]
    rw [if_pos (by decide), if_neg (by rw [t_dgT]; omega)]
theorem X_st {B : Nat → Nat} {n a : Nat} {s : ax_S} (h : t_X B n a s) : t_X B n (a + 1) (XTa_step s) ∧ t_K s (XTa_step s) := by
  obtain ⟨h1, h2, h3, h4⟩ := h
  unfold XTa_step
  refine ⟨⟨by rw [r_one _ _ (by omega)]; exact h1, by rw [r_Ie, r_u, h2, z_1], by rw [r_one _ _ (by omega)]; exact h3, fun k hk => by rw [r_I (by omega)]; exact h4 k hk⟩, K_3 _ _⟩
theorem M_st {B : Nat → Nat} {n a : Nat} {s : ax_S} (h : t_M B n a s) : t_M B n (a + 1) (ax_sI s 63 6 (s.2.1 63 6 + 1)) ∧ t_N s (ax_sI s 63 6 (s.2.1 63 6 + 1)) := by
  obtain ⟨h1, h2, h4⟩ := h
  refine ⟨⟨by rw [r_one _ _ (by omega)]; exact h1, by rw [r_Ie, r_u, h2, z_1], fun k => by rw [r_I (by omega)]; exact h4 k⟩, N_6 _ _⟩
/-- a refusal at the place p -/
theorem X_rf {B : Nat → Nat} {n a : Nat} {s : ax_S} (h : t_X B n a s) (q p : Nat) : (XTa_refuseAt (nI q) (nI p) s).2.1 1 5 = t_fc q p := by
  unfold XTa_refuseAt
  rw [if_pos h.2.2.1, r_Ie, r_u]; rfl
theorem M_wr (q p : Nat) (s : ax_S) : (M_wrongAt (nI q) (nI p) s).1 = 0 ∧ (M_wrongAt (nI q) (nI p) s).2.2.1 63 8 = t_fc q p ∧ t_N s (M_wrongAt (nI q) (nI p) s).2 := by
  unfold M_wrongAt
  exact ⟨rfl, by show (ax_sI s 63 8 _).2.1 63 8 = _; rw [r_Ie, r_u]; rfl, N_8 _ _⟩
