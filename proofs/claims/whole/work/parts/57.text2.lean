/-! numbers in texts -/
theorem t_cnt (B : Nat → Nat) (n : Nat) : ∀ m a, ∃ k, k ≤ m ∧ (∀ j, j < k → t_dg B n (a + j) = true) ∧ (k = m ∨ t_dg B n (a + k) = false) := by
  intro m
  induction m with
  | zero => exact fun a => ⟨0, by omega, fun j hj => absurd hj (Nat.not_lt_zero _), Or.inl rfl⟩
  | succ m ih =>
    intro a
    by_cases c : t_dg B n a = true
    · obtain ⟨k, h1, h2, h3⟩ := ih (a + 1)
      refine ⟨k + 1, by omega, fun j hj => ?_, ?_⟩
      · rcases Nat.eq_zero_or_pos j with rfl | hp
        · exact c
        · have := h2 (j - 1) (by omega)
          rwa [show a + 1 + (j - 1) = a + j by omega] at this
      · rw [show a + (k + 1) = a + 1 + k by omega]
        rcases h3 with h3 | h3
        · exact Or.inl (by omega)
        · exact Or.inr h3
    · exact ⟨0, by omega, fun j hj => absurd hj (Nat.not_lt_zero _), Or.inr (by simpa using c)⟩
def t_dv (B : Nat → Nat) (a : Nat) : Nat → Nat
  | 0 => 0
  | k + 1 => 10 * t_dv B a k + (B (a + k) - 48)
theorem t_dv_lt {B : Nat → Nat} {n a : Nat} : ∀ k, (∀ j, j < k → t_dg B n (a + j) = true) → t_dv B a k < 10 ^ k := by
  intro k
  induction k with
  | zero => intro _; exact Nat.one_pos
  | succ k ih =>
    intro h
    have h1 := ih fun j hj => h j (by omega)
    have h2 := t_dgT.mp (h k (by omega))
    show 10 * t_dv B a k + (B (a + k) - 48) < 10 ^ (k + 1)
    rw [Nat.pow_succ]
    omega
theorem t_dv5 {B : Nat → Nat} {n a k m : Nat} (hk : k ≤ m) (hm : m ≤ 5) (h : ∀ j, j < k → t_dg B n (a + j) = true) : t_dv B a k < 100000 := by
  have h1 := t_dv_lt k h
  have h2 : 10 ^ k ≤ 10 ^ 5 := Nat.pow_le_pow_right (by omega) (by omega)
  have : (10 : Nat) ^ 5 = 100000 := by decide
  omega
theorem t_acc {v b : Nat} (hb : 48 ≤ b) : (10 : Int32) * nI v + nI b - 48 = nI (10 * v + (b - 48)) := by
  rw [show (10 : Int32) = nI 10 from rfl, show (48 : Int32) = nI 48 from rfl, pk_mul, nI_add, z_sub (by omega), show 10 * v + b - 48 = 10 * v + (b - 48) by omega]
theorem t_chd {B : Nat → Nat} {n a : Nat} (h : t_dg B n a = true) : t_ch B n a = nI (B a) := by
  have := t_dgT.mp h
  unfold t_ch; rw [if_pos this.1]
theorem t_end {B : Nat → Nat} {n a k : Nat} (h0 : a ≤ n) (h : ∀ j, j < k → t_dg B n (a + j) = true) : a + k ≤ n := by
  rcases Nat.eq_zero_or_pos k with rfl | hp
  · omega
  · have := t_dgT.mp (h (k - 1) (by omega))
    omega
theorem R_14 (q p : Int32) (s : ax_S) : (XTa_refuseAt q p s).2.1 1 4 = s.2.1 1 4 := by
  unfold XTa_refuseAt
  split
  · exact r_one _ _ (by omega)
  · rfl
theorem p_num {B : Nat → Nat} {n a : Nat} {s : ax_S} (h : t_X B n a s) (hB : ∀ k, B k < 256) (hn : n ≤ 260) (ha : a ≤ n) (m k : Nat) (hm : m ≤ 5) (hk : k ≤ m) (h1 : ∀ j, j < k → t_dg B n (a + j) = true) (h2 : k = m ∨ t_dg B n (a + k) = false) :
    ∃ v t, XTa_readNumber (nI m) s = some (v, t) ∧ t.2.1 1 4 = nI a ∧ (k = 0 → t.2.1 1 5 = t_fc 1 a) ∧ (0 < k → t_dg B n (a + k) = true → t.2.1 1 5 = t_fc 2 (a + k)) ∧ (0 < k → t_dg B n (a + k) = false → v = nI (t_dv B a k) ∧ t_X B n (a + k) t) := by
  have hak := t_end ha h1
  obtain ⟨⟨v, t⟩, e1, e2⟩ := z_for (fun n' j (st : Int32 × ax_S) => XTa_readNumber_l12 n' (nI m) st.1 (nI j) st.2) k (fun j st => st.1 = nI (t_dv B a j) ∧ t_X B n (a + j) st.2 ∧ st.2.2.1 1 4 = nI a) (fun st => st.1 = nI (t_dv B a k) ∧ t_X B n (a + k) st.2 ∧ st.2.2.1 1 4 = nI a) (fun n' st hst => ⟨st, by
      show XTa_readNumber_l12 (n' + 1) (nI m) st.1 (nI k) st.2 = some st
      rw [XTa_readNumber_l12]
      rcases h2 with h2 | h2
      · exact if_pos (by rw [z_le (by omega) (by omega)]; omega)
      · by_cases c : nI m ≤ nI k
        · exact if_pos c
        · rw [if_neg c, p_dig hst.2.1 hB hn (by omega), h2]
          rfl, hst⟩) (fun n' j st hj hst => Or.inr ⟨(nI (t_dv B a (j + 1)), ax_sI st.2 1 3 (st.2.2.1 1 3 + 1)), by
      show XTa_readNumber_l12 (n' + 1) (nI m) st.1 (nI j) st.2 = XTa_readNumber_l12 n' (nI m) (nI (t_dv B a (j + 1))) (nI (j + 1)) (ax_sI st.2 1 3 (st.2.2.1 1 3 + 1))
      have hd := h1 j hj
      rw [XTa_readNumber_l12, if_neg (by rw [z_le (by omega) (by omega)]; omega), p_dig hst.2.1 hB hn (by omega), hd, p_peek hst.2.1 hn (by omega), t_chd hd, hst.1, z_1]
      show (if (1 : Int32) = 0 then _ else _) = _
      rw [if_neg (by decide)]
      show XTa_readNumber_l12 n' (nI m) (10 * nI (t_dv B a j) + nI (B (a + j)) - 48) _ _ = _
      rw [t_acc (by have := t_dgT.mp hd; omega)]
      rfl, rfl, (X_st hst.2.1).1, by
      show (ax_sI st.2 1 3 (st.2.2.1 1 3 + 1)).2.1 1 4 = nI a
      rw [r_one _ _ (by omega)]; exact hst.2.2⟩) 70000 0 (0, ax_sI s 1 4 (s.2.1 1 3)) (by omega) ⟨rfl, ⟨by rw [r_one _ _ (by omega)]; exact h.1, by rw [r_one _ _ (by omega)]; exact h.2.1, by rw [r_one _ _ (by omega)]; exact h.2.2.1, fun q hq => by rw [r_I (by omega)]; exact h.2.2.2 q hq⟩, by rw [r_Ie, r_u]; exact h.2.1⟩ (by omega)
  have e1 : XTa_readNumber_l12 70000 (nI m) 0 0 (ax_sI s 1 4 (s.2.1 1 3)) = some (v, t) := e1
  obtain ⟨e2, e3, e4⟩ := e2
  have e2 : v = nI (t_dv B a k) := e2
  have e3 : t_X B n (a + k) t := e3
  have e4 : t.2.1 1 4 = nI a := e4
  unfold XTa_readNumber
  rw [e1]
  simp only [e4, e3.2.1]
  simp (disch := omega) only [z_eq]
  rcases Nat.eq_zero_or_pos k with hk0 | hk0
  · refine ⟨v, XTa_refuseAt (nI 1) (nI (a + k)) t, by rw [if_pos (by omega)]; rfl, by rw [R_14]; exact e4, fun _ => ?_, fun c => by omega, fun c => by omega⟩
    rw [X_rf e3, hk0, Nat.add_zero]
  · rw [if_neg (by omega), p_dig e3 hB hn (by omega)]
    by_cases c : t_dg B n (a + k) = true
    · refine ⟨v, XTa_refuseAt (nI 2) (nI (a + k)) t, by rw [c]; rfl, by rw [R_14]; exact e4, fun c => by omega, fun _ _ => X_rf e3 _ _, fun _ c2 => by rw [c] at c2; exact absurd c2 (by decide)⟩
    · have c : t_dg B n (a + k) = false := by simpa using c
      refine ⟨v, t, by rw [c]; rfl, e4, fun c => by omega, fun _ c2 => by rw [c] at c2; exact absurd c2 (by decide), fun _ _ => ⟨e2, e3⟩⟩
/-- the reference's number: M a state behind k digits -/
theorem q_amt {B : Nat → Nat} {n a : Nat} {s : ax_S} (h : t_M B n a s) (hB : ∀ k, B k < 256) (hn : n ≤ 260) (ha : a ≤ n) (k : Nat) (hk : k ≤ 2) (h1 : ∀ j, j < k → t_dg B n (a + j) = true) (h2 : k = 2 ∨ t_dg B n (a + k) = false) :
    ∃ v t, M_readsAmount s = some (v, t) ∧ t_N s t ∧ (k = 0 → v = 0 ∧ t.2.1 63 8 = t_fc 1 a) ∧ (0 < k → t_dg B n (a + k) = true → v = 0 ∧ t.2.1 63 8 = t_fc 2 (a + k)) ∧ (0 < k → t_dg B n (a + k) = false → v = 1 ∧ t.2.1 63 9 = nI (t_dv B a k) ∧ t_M B n (a + k) t) := by
  have hak := t_end ha h1
  unfold M_readsAmount
  rw [p_mdig h hB hn (by omega)]
  rcases Nat.eq_zero_or_pos k with hk0 | hk0
  · have c : t_dg B n a = false := by
      rcases h2 with h2 | h2
      · omega
      · rwa [hk0, Nat.add_zero] at h2
    rw [c, h.2.1]
    obtain ⟨w1, w2, w3⟩ := M_wr 1 a s
    exact ⟨0, (M_wrongAt (nI 1) (nI a) s).2, rfl, w3, fun _ => ⟨rfl, w2⟩, fun c => by omega, fun c => by omega⟩
  · have c : t_dg B n a = true := h1 0 hk0
    rw [c]
    obtain ⟨⟨v, t⟩, e1, e2⟩ := z_for (fun n' j (st : ax_S) => M_readsAmount_l27 n' (nI a) st) k (fun j st => st.2.1 63 9 = nI (t_dv B a j) ∧ t_M B n (a + j) st ∧ t_N s st) (fun b => t_N s b.2 ∧ (t_dg B n (a + k) = true → b.1 = 0 ∧ b.2.2.1 63 8 = t_fc 2 (a + k)) ∧ (t_dg B n (a + k) = false → b.1 = 1 ∧ b.2.2.1 63 9 = nI (t_dv B a k) ∧ t_M B n (a + k) b.2)) (fun n' st hst => by
        show ∃ b, M_readsAmount_l27 (n' + 1) (nI a) st = some b ∧ _
        rw [M_readsAmount_l27, p_mdig hst.2.1 hB hn (by omega)]
        by_cases c2 : t_dg B n (a + k) = true
        · have hk2 : k = 2 := by
            rcases h2 with h2 | h2
            · exact h2
            · rw [c2] at h2; exact absurd h2 (by decide)
          obtain ⟨w1, w2, w3⟩ := M_wr 2 (a + k) st
          refine ⟨(0, (M_wrongAt (nI 2) (nI (a + k)) st).2), ?_, N_tr hst.2.2 w3, fun _ => ⟨rfl, w2⟩, fun c3 => by rw [c2] at c3; exact absurd c3 (by decide)⟩
          rw [c2, hst.2.1.2.1, hk2]
          show (if (1 : Int32) = 0 then _ else if nI (a + 2) = nI a + 2 then _ else _) = _
          rw [if_neg (by decide), if_pos (by rw [show (2 : Int32) = nI 2 from rfl, nI_add])]
          rfl
        · have c2 : t_dg B n (a + k) = false := by simpa using c2
          refine ⟨(1, st), by rw [c2]; rfl, hst.2.2, fun c3 => by rw [c2] at c3; exact absurd c3 (by decide), fun _ => ⟨rfl, hst.1, hst.2.1⟩⟩) (fun n' j st hj hst => Or.inr ⟨ax_sI (ax_sI st 63 9 (nI (t_dv B a (j + 1)))) 63 6 (st.2.1 63 6 + 1), by
        show M_readsAmount_l27 (n' + 1) (nI a) st = M_readsAmount_l27 n' (nI a) _
        have hd := h1 j hj
        rw [M_readsAmount_l27, p_mdig hst.2.1 hB hn (by omega), hd, p_here hst.2.1 hn (by omega), t_chd hd]
        show (if (1 : Int32) = 0 then _ else if st.2.1 63 6 = nI a + 2 then _ else _) = _
        rw [if_neg (by decide), if_neg (by rw [hst.2.1.2.1, show (2 : Int32) = nI 2 from rfl, nI_add, z_eq (by omega) (by omega)]; omega)]
        show M_readsAmount_l27 n' (nI a) (ax_sI (ax_sI st 63 9 (10 * st.2.1 63 9 + nI (B (a + j)) - 48)) 63 6 (st.2.1 63 6 + 1)) = _
        rw [hst.1, t_acc (by have := t_dgT.mp hd; omega)]
        rfl, by
        have e0 := M_st (B := B) (n := n) (a := a + j) (s := ax_sI st 63 9 (nI (t_dv B a (j + 1)))) ⟨by rw [r_one _ _ (by omega)]; exact hst.2.1.1, by rw [r_one _ _ (by omega)]; exact hst.2.1.2.1, fun q => by rw [r_I (by omega)]; exact hst.2.1.2.2 q⟩
        rw [r_one 63 6 (by omega)] at e0
        refine ⟨?_, e0.1, N_tr hst.2.2 (N_tr (N_9 _ _) e0.2)⟩
        rw [r_one _ _ (by omega), r_Ie, r_u]⟩) 70000 0 (ax_sI s 63 9 0) (by omega) ⟨by rw [r_Ie, r_u]; rfl, ⟨by rw [r_one _ _ (by omega)]; exact h.1, by rw [r_one _ _ (by omega)]; exact h.2.1, fun q => by rw [r_I (by omega)]; exact h.2.2 q⟩, N_9 _ _⟩ (by omega)
    refine ⟨v, t, ?_, e2.1, fun c => by omega, fun _ c2 => e2.2.1 c2, fun _ c2 => e2.2.2 c2⟩
    rw [h.2.1]
    show (if (1 : Int32) = 0 then _ else _) = _
    rw [if_neg (by decide)]
    have e1 : M_readsAmount_l27 70000 (nI a) (ax_sI s 63 9 0) = some (v, t) := e1
    rw [e1]
