/-! simple loops over figures and persons -/
theorem XFi_persons_4_st (s : ax_S) (n k : Nat) (hk : k < 12)  (a : Int32) : XFi_persons_4_l4 (n + 1) a (nI k) s = XFi_persons_4_l4 n (a ||| (v_bit (vX s.2.1 5)) k) (nI (k + 1)) s := by
  rw [XFi_persons_4_l4, X_pbit_eq s k hk]
  simp (disch := omega) only [q_12, q_16, q_60, z_0add, nI_add, z_1, z_cl, z_lt0, z_le, z_nle, if_false, or_self, z_10, z_00, if_true]
theorem XFi_persons_4_eq (s : ax_S)  : XFi_persons_4  s = some (z_or (v_bit (vX s.2.1 5)) 12) := by
  unfold XFi_persons_4
  obtain ⟨b, h1, h2⟩ := z_for (fun n k a => XFi_persons_4_l4 n a (nI k) s) 12 (fun k a => a = z_or (v_bit (vX s.2.1 5)) k) (fun b => b = z_or (v_bit (vX s.2.1 5)) 12) (fun n a ha => ⟨a, by rw [XFi_persons_4_l4]; exact if_pos (by decide), ha⟩) (fun n k a hk ha => Or.inr ⟨_, XFi_persons_4_st s n k hk  a, by rw [ha]; rfl⟩) 70000 0 0 (by omega) rfl (by omega)
  have h1 : XFi_persons_4_l4 70000 0 0 s = some b := h1
  rw [h1, h2]
theorem M_onPrint_st (s : ax_S) (n k : Nat) (hk : k < 12)  (a : Int32) : M_onPrint_l4 (n + 1) a (nI k) s = M_onPrint_l4 n (a ||| (v_bit (vM s.2.1 64)) k) (nI (k + 1)) s := by
  rw [M_onPrint_l4, M_fig_eq s k hk]
  simp (disch := omega) only [q_12, q_16, q_60, z_0add, nI_add, z_1, z_cl, z_lt0, z_le, z_nle, if_false, or_self, z_10, z_00, if_true]
  unfold v_bit
  rw [show vM s.2.1 64 0 k = s.2.1 64 k by unfold vM; rw [Nat.mul_zero, Nat.zero_add]]
  by_cases hc : s.2.1 64 k = -1 <;> simp [hc]
theorem M_onPrint_eq (s : ax_S)  : M_onPrint  s = some (z_or (v_bit (vM s.2.1 64)) 12) := by
  unfold M_onPrint
  obtain ⟨b, h1, h2⟩ := z_for (fun n k a => M_onPrint_l4 n a (nI k) s) 12 (fun k a => a = z_or (v_bit (vM s.2.1 64)) k) (fun b => b = z_or (v_bit (vM s.2.1 64)) 12) (fun n a ha => ⟨a, by rw [M_onPrint_l4]; exact if_pos (by decide), ha⟩) (fun n k a hk ha => Or.inr ⟨_, M_onPrint_st s n k hk  a, by rw [ha]; rfl⟩) 70000 0 0 (by omega) rfl (by omega)
  have h1 : M_onPrint_l4 70000 0 0 s = some b := h1
  rw [h1, h2]
def g_B (w : Nat → Int32) (k : Nat) : Int32 := if w k = -1 then 0 else (1 : Int32) <<< (nI k &&& 31)
def g_A (w : Nat → Int32) (b : Int32) (k : Nat) : Int32 := if w k ≤ b then 0 else (1 : Int32) <<< (nI k &&& 31)
def g_N (w : Nat → Int32) (x : Int32) (k : Nat) : Int32 := if w k = x then 1 else 0
theorem add_0 (x : Int32) : x + 0 = x := Int32.add_zero x
theorem XFi_bits_4_st (s : ax_S) (n k : Nat) (hk : k < 12)  (a : Int32) : XFi_bits_4_l4 (n + 1) a (nI k) s = XFi_bits_4_l4 n (a ||| (g_B (s.2.1 5)) k) (nI (k + 1)) s := by
  rw [XFi_bits_4_l4]
  simp (disch := omega) only [q_12, q_16, q_60, z_0add, nI_add, z_1, z_cl, z_lt0, z_le, z_nle, if_false, or_self, z_10, z_00, if_true]
  unfold g_B
  by_cases hc : s.2.1 5 k = -1 <;> simp [hc]
theorem XFi_bits_4_eq (s : ax_S)  : XFi_bits_4  s = some (z_or (g_B (s.2.1 5)) 12) := by
  unfold XFi_bits_4
  obtain ⟨b, h1, h2⟩ := z_for (fun n k a => XFi_bits_4_l4 n a (nI k) s) 12 (fun k a => a = z_or (g_B (s.2.1 5)) k) (fun b => b = z_or (g_B (s.2.1 5)) 12) (fun n a ha => ⟨a, by rw [XFi_bits_4_l4]; exact if_pos (by decide), ha⟩) (fun n k a hk ha => Or.inr ⟨_, XFi_bits_4_st s n k hk  a, by rw [ha]; rfl⟩) 70000 0 0 (by omega) rfl (by omega)
  have h1 : XFi_bits_4_l4 70000 0 0 s = some b := h1
  rw [h1, h2]
theorem M_figureSet_st (s : ax_S) (n k : Nat) (hk : k < 12)  (a : Int32) : M_figureSet_l4 (n + 1) a (nI k) s = M_figureSet_l4 n (a ||| (g_B (s.2.1 64)) k) (nI (k + 1)) s := by
  rw [M_figureSet_l4, M_fig_eq s k hk]
  simp (disch := omega) only [q_12, q_16, q_60, z_0add, nI_add, z_1, z_cl, z_lt0, z_le, z_nle, if_false, or_self, z_10, z_00, if_true]
  unfold g_B
  by_cases hc : s.2.1 64 k = -1 <;> simp [hc]
theorem M_figureSet_eq (s : ax_S)  : M_figureSet  s = some (z_or (g_B (s.2.1 64)) 12) := by
  unfold M_figureSet
  obtain ⟨b, h1, h2⟩ := z_for (fun n k a => M_figureSet_l4 n a (nI k) s) 12 (fun k a => a = z_or (g_B (s.2.1 64)) k) (fun b => b = z_or (g_B (s.2.1 64)) 12) (fun n a ha => ⟨a, by rw [M_figureSet_l4]; exact if_pos (by decide), ha⟩) (fun n k a hk ha => Or.inr ⟨_, M_figureSet_st s n k hk  a, by rw [ha]; rfl⟩) 70000 0 0 (by omega) rfl (by omega)
  have h1 : M_figureSet_l4 70000 0 0 s = some b := h1
  rw [h1, h2]
theorem XSt_painfulAbove_3_st (s : ax_S) (n k : Nat) (hk : k < 16) (x : Int32) (a : Int32) : XSt_painfulAbove_3_l4 (n + 1) x a (nI k) s = XSt_painfulAbove_3_l4 n x (a ||| (g_A (s.2.1 10) x) k) (nI (k + 1)) s := by
  rw [XSt_painfulAbove_3_l4]
  simp (disch := omega) only [q_12, q_16, q_60, z_0add, nI_add, z_1, z_cl, z_lt0, z_le, z_nle, if_false, or_self, z_10, z_00, if_true]
  unfold g_A
  by_cases hc : s.2.1 10 k ≤ x <;> simp [hc]
theorem XSt_painfulAbove_3_eq (s : ax_S) (x : Int32) : XSt_painfulAbove_3 x s = some (z_or (g_A (s.2.1 10) x) 16) := by
  unfold XSt_painfulAbove_3
  obtain ⟨b, h1, h2⟩ := z_for (fun n k a => XSt_painfulAbove_3_l4 n x a (nI k) s) 16 (fun k a => a = z_or (g_A (s.2.1 10) x) k) (fun b => b = z_or (g_A (s.2.1 10) x) 16) (fun n a ha => ⟨a, by rw [XSt_painfulAbove_3_l4]; exact if_pos (by decide), ha⟩) (fun n k a hk ha => Or.inr ⟨_, XSt_painfulAbove_3_st s n k hk x a, by rw [ha]; rfl⟩) 70000 0 0 (by omega) rfl (by omega)
  have h1 : XSt_painfulAbove_3_l4 70000 x 0 0 s = some b := h1
  rw [h1, h2]
theorem M_painfulSet_st (s : ax_S) (n k : Nat) (hk : k < 16)  (a : Int32) : M_painfulSet_l4 (n + 1) a (nI k) s = M_painfulSet_l4 n (a ||| (g_A (fun i => s.2.1 64 (60 + i)) (s.2.1 63 3)) k) (nI (k + 1)) s := by
  rw [M_painfulSet_l4]
  simp (disch := omega) only [q_12, q_16, q_60, z_0add, nI_add, z_1, z_cl, z_lt0, z_le, z_nle, if_false, or_self, z_10, z_00, if_true]
  unfold g_A
  by_cases hc : s.2.1 64 (60 + k) ≤ s.2.1 63 3 <;> simp [hc]
theorem M_painfulSet_eq (s : ax_S)  : M_painfulSet  s = some (z_or (g_A (fun i => s.2.1 64 (60 + i)) (s.2.1 63 3)) 16) := by
  unfold M_painfulSet
  obtain ⟨b, h1, h2⟩ := z_for (fun n k a => M_painfulSet_l4 n a (nI k) s) 16 (fun k a => a = z_or (g_A (fun i => s.2.1 64 (60 + i)) (s.2.1 63 3)) k) (fun b => b = z_or (g_A (fun i => s.2.1 64 (60 + i)) (s.2.1 63 3)) 16) (fun n a ha => ⟨a, by rw [M_painfulSet_l4]; exact if_pos (by decide), ha⟩) (fun n k a hk ha => Or.inr ⟨_, M_painfulSet_st s n k hk  a, by rw [ha]; rfl⟩) 70000 0 0 (by omega) rfl (by omega)
  have h1 : M_painfulSet_l4 70000 0 0 s = some b := h1
  rw [h1, h2]
theorem XFi_howManyOf_4_st (s : ax_S) (n k : Nat) (hk : k < 12) (x : Int32) (a : Int32) : XFi_howManyOf_4_l4 (n + 1) x a (nI k) s = XFi_howManyOf_4_l4 n x (a + (g_N (s.2.1 5) x) k) (nI (k + 1)) s := by
  rw [XFi_howManyOf_4_l4]
  simp (disch := omega) only [q_12, q_16, q_60, z_0add, nI_add, z_1, z_cl, z_lt0, z_le, z_nle, if_false, or_self, z_10, z_00, if_true]
  unfold g_N
  by_cases hc : s.2.1 5 k = x <;> simp [hc]
theorem XFi_howManyOf_4_eq (s : ax_S) (x : Int32) : XFi_howManyOf_4 x s = some (z_sum (g_N (s.2.1 5) x) 12) := by
  unfold XFi_howManyOf_4
  obtain ⟨b, h1, h2⟩ := z_for (fun n k a => XFi_howManyOf_4_l4 n x a (nI k) s) 12 (fun k a => a = z_sum (g_N (s.2.1 5) x) k) (fun b => b = z_sum (g_N (s.2.1 5) x) 12) (fun n a ha => ⟨a, by rw [XFi_howManyOf_4_l4]; exact if_pos (by decide), ha⟩) (fun n k a hk ha => Or.inr ⟨_, XFi_howManyOf_4_st s n k hk x a, by rw [ha]; rfl⟩) 70000 0 0 (by omega) rfl (by omega)
  have h1 : XFi_howManyOf_4_l4 70000 x 0 0 s = some b := h1
  rw [h1, h2]
theorem M_figuresOf_st (s : ax_S) (n k : Nat) (hk : k < 12) (x : Int32) (a : Int32) : M_figuresOf_l4 (n + 1) x a (nI k) s = M_figuresOf_l4 n x (a + (g_N (s.2.1 64) x) k) (nI (k + 1)) s := by
  rw [M_figuresOf_l4]
  simp (disch := omega) only [q_12, q_16, q_60, z_0add, nI_add, z_1, z_cl, z_lt0, z_le, z_nle, if_false, or_self, z_10, z_00, if_true]
  unfold g_N
  by_cases hc : s.2.1 64 k = x <;> simp [hc]
theorem M_figuresOf_eq (s : ax_S) (x : Int32) : M_figuresOf x s = some (z_sum (g_N (s.2.1 64) x) 12) := by
  unfold M_figuresOf
  obtain ⟨b, h1, h2⟩ := z_for (fun n k a => M_figuresOf_l4 n x a (nI k) s) 12 (fun k a => a = z_sum (g_N (s.2.1 64) x) k) (fun b => b = z_sum (g_N (s.2.1 64) x) 12) (fun n a ha => ⟨a, by rw [M_figuresOf_l4]; exact if_pos (by decide), ha⟩) (fun n k a hk ha => Or.inr ⟨_, M_figuresOf_st s n k hk x a, by rw [ha]; rfl⟩) 70000 0 0 (by omega) rfl (by omega)
  have h1 : M_figuresOf_l4 70000 x 0 0 s = some b := h1
  rw [h1, h2]
theorem XFi_meeting_4_st (s : ax_S) (n k : Nat) (hk : k < 12) (x : Int32) (y : Int32) (w : Int32) (h : Int32) (a : Int32) : XFi_meeting_4_l6 (n + 1) x y w h a (nI k) s = XFi_meeting_4_l6 n x y w h (a ||| (g_P (vX s.2.1 5) x y w h) k) (nI (k + 1)) s := by
  rw [XFi_meeting_4_l6, X_pbit_eq s k hk, X_meets_eq s k hk]
  simp (disch := omega) only [q_12, q_16, q_60, z_0add, nI_add, z_1, z_cl, z_lt0, z_le, z_nle, if_false, or_self, z_10, z_00, if_true]
  unfold g_P
  rw [show vX s.2.1 5 0 k = s.2.1 5 k from rfl]
  by_cases hc : s.2.1 5 k = -1
  · simp [hc]
  · by_cases hd : v_in (vX s.2.1 5) k x y w h = 0 <;> simp [hc, hd]
theorem XFi_meeting_4_eq (s : ax_S) (x : Int32) (y : Int32) (w : Int32) (h : Int32) : XFi_meeting_4 x y w h s = some (z_or (g_P (vX s.2.1 5) x y w h) 12) := by
  unfold XFi_meeting_4
  obtain ⟨b, h1, h2⟩ := z_for (fun n k a => XFi_meeting_4_l6 n x y w h a (nI k) s) 12 (fun k a => a = z_or (g_P (vX s.2.1 5) x y w h) k) (fun b => b = z_or (g_P (vX s.2.1 5) x y w h) 12) (fun n a ha => ⟨a, by rw [XFi_meeting_4_l6]; exact if_pos (by decide), ha⟩) (fun n k a hk ha => Or.inr ⟨_, XFi_meeting_4_st s n k hk x y w h a, by rw [ha]; rfl⟩) 70000 0 0 (by omega) rfl (by omega)
  have h1 : XFi_meeting_4_l6 70000 x y w h 0 0 s = some b := h1
  rw [h1, h2]
theorem XFi_headlessIn_4_st (s : ax_S) (n k : Nat) (hk : k < 12) (x : Int32) (y : Int32) (w : Int32) (h : Int32) (a : Int32) : XFi_headlessIn_4_l6 (n + 1) x y w h a (nI k) s = XFi_headlessIn_4_l6 n x y w h (a ||| (g_H (vX s.2.1 5) x y w h) k) (nI (k + 1)) s := by
  rw [XFi_headlessIn_4_l6, X_pbit_eq s k hk, X_meets_eq s k hk]
  simp (disch := omega) only [q_12, q_16, q_60, z_0add, nI_add, z_1, z_cl, z_lt0, z_le, z_nle, if_false, or_self, z_10, z_00, if_true]
  unfold g_H
  rw [show vX s.2.1 5 0 k = s.2.1 5 k from rfl, show vX s.2.1 5 2 k = s.2.1 7 k from rfl]
  by_cases hc : s.2.1 5 k = -1
  · simp [hc]
  · by_cases hd : v_in (vX s.2.1 5) k x y w h = 0
    · simp [hc, hd]
    · by_cases he : y ≤ s.2.1 7 k <;> simp [hc, hd, he]
theorem XFi_headlessIn_4_eq (s : ax_S) (x : Int32) (y : Int32) (w : Int32) (h : Int32) : XFi_headlessIn_4 x y w h s = some (z_or (g_H (vX s.2.1 5) x y w h) 12) := by
  unfold XFi_headlessIn_4
  obtain ⟨b, h1, h2⟩ := z_for (fun n k a => XFi_headlessIn_4_l6 n x y w h a (nI k) s) 12 (fun k a => a = z_or (g_H (vX s.2.1 5) x y w h) k) (fun b => b = z_or (g_H (vX s.2.1 5) x y w h) 12) (fun n a ha => ⟨a, by rw [XFi_headlessIn_4_l6]; exact if_pos (by decide), ha⟩) (fun n k a hk ha => Or.inr ⟨_, XFi_headlessIn_4_st s n k hk x y w h a, by rw [ha]; rfl⟩) 70000 0 0 (by omega) rfl (by omega)
  have h1 : XFi_headlessIn_4_l6 70000 x y w h 0 0 s = some b := h1
  rw [h1, h2]
theorem M_partlyIn_st (s : ax_S) (n k : Nat) (hk : k < 12) (x : Int32) (y : Int32) (w : Int32) (h : Int32) (a : Int32) : M_partlyIn_l6 (n + 1) x y w h a (nI k) s = M_partlyIn_l6 n x y w h (a ||| (g_P (vM s.2.1 64) x y w h) k) (nI (k + 1)) s := by
  rw [M_partlyIn_l6, M_fig_eq s k hk, M_isIn_eq s k hk]
  simp (disch := omega) only [q_12, q_16, q_60, z_0add, nI_add, z_1, z_cl, z_lt0, z_le, z_nle, if_false, or_self, z_10, z_00, if_true]
  unfold g_P v_bit
  rw [show vM s.2.1 64 0 k = s.2.1 64 k by unfold vM; rw [Nat.mul_zero, Nat.zero_add]]
  by_cases hc : s.2.1 64 k = -1
  · simp [hc]
  · by_cases hd : v_in (vM s.2.1 64) k x y w h = 0 <;> simp [hc, hd]
theorem M_partlyIn_eq (s : ax_S) (x : Int32) (y : Int32) (w : Int32) (h : Int32) : M_partlyIn x y w h s = some (z_or (g_P (vM s.2.1 64) x y w h) 12) := by
  unfold M_partlyIn
  obtain ⟨b, h1, h2⟩ := z_for (fun n k a => M_partlyIn_l6 n x y w h a (nI k) s) 12 (fun k a => a = z_or (g_P (vM s.2.1 64) x y w h) k) (fun b => b = z_or (g_P (vM s.2.1 64) x y w h) 12) (fun n a ha => ⟨a, by rw [M_partlyIn_l6]; exact if_pos (by decide), ha⟩) (fun n k a hk ha => Or.inr ⟨_, M_partlyIn_st s n k hk x y w h a, by rw [ha]; rfl⟩) 70000 0 0 (by omega) rfl (by omega)
  have h1 : M_partlyIn_l6 70000 x y w h 0 0 s = some b := h1
  rw [h1, h2]
theorem M_headless_st (s : ax_S) (n k : Nat) (hk : k < 12) (x : Int32) (y : Int32) (w : Int32) (h : Int32) (a : Int32) : M_headless_l6 (n + 1) x y w h a (nI k) s = M_headless_l6 n x y w h (a ||| (g_H (vM s.2.1 64) x y w h) k) (nI (k + 1)) s := by
  rw [M_headless_l6, M_fig_eq s k hk, M_isIn_eq s k hk]
  simp (disch := omega) only [q_24, q_12, q_16, q_60, z_0add, nI_add, z_1, z_cl, z_lt0, z_le, z_nle, if_false, or_self, z_10, z_00, if_true]
  unfold g_H v_bit
  rw [show vM s.2.1 64 0 k = s.2.1 64 k by unfold vM; rw [Nat.mul_zero, Nat.zero_add]]
  rw [show vM s.2.1 64 2 k = s.2.1 64 (24 + k) from rfl]
  by_cases hc : s.2.1 64 k = -1
  · simp [hc]
  · by_cases hd : v_in (vM s.2.1 64) k x y w h = 0
    · simp [hc, hd]
    · by_cases he : y ≤ s.2.1 64 (24 + k) <;> simp [hc, hd, he]
theorem M_headless_eq (s : ax_S) (x : Int32) (y : Int32) (w : Int32) (h : Int32) : M_headless x y w h s = some (z_or (g_H (vM s.2.1 64) x y w h) 12) := by
  unfold M_headless
  obtain ⟨b, h1, h2⟩ := z_for (fun n k a => M_headless_l6 n x y w h a (nI k) s) 12 (fun k a => a = z_or (g_H (vM s.2.1 64) x y w h) k) (fun b => b = z_or (g_H (vM s.2.1 64) x y w h) 12) (fun n a ha => ⟨a, by rw [M_headless_l6]; exact if_pos (by decide), ha⟩) (fun n k a hk ha => Or.inr ⟨_, M_headless_st s n k hk x y w h a, by rw [ha]; rfl⟩) 70000 0 0 (by omega) rfl (by omega)
  have h1 : M_headless_l6 70000 x y w h 0 0 s = some b := h1
  rw [h1, h2]
theorem XSt_painOfAll_3_st (s : ax_S) (n k : Nat) (hk : k < 16)  (a : Int32) : XSt_painOfAll_3_l4 (n + 1) a (nI k) s = XSt_painOfAll_3_l4 n (a + (s.2.1 10) k) (nI (k + 1)) s := by
  rw [XSt_painOfAll_3_l4]
  simp (disch := omega) only [q_12, q_16, q_60, z_0add, nI_add, z_1, z_cl, z_lt0, z_le, z_nle, if_false, or_self, z_10, z_00, if_true]
theorem XSt_painOfAll_3_eq (s : ax_S)  : XSt_painOfAll_3  s = some (z_sum (s.2.1 10) 16) := by
  unfold XSt_painOfAll_3
  obtain ⟨b, h1, h2⟩ := z_for (fun n k a => XSt_painOfAll_3_l4 n a (nI k) s) 16 (fun k a => a = z_sum (s.2.1 10) k) (fun b => b = z_sum (s.2.1 10) 16) (fun n a ha => ⟨a, by rw [XSt_painOfAll_3_l4]; exact if_pos (by decide), ha⟩) (fun n k a hk ha => Or.inr ⟨_, XSt_painOfAll_3_st s n k hk  a, by rw [ha]; rfl⟩) 70000 0 0 (by omega) rfl (by omega)
  have h1 : XSt_painOfAll_3_l4 70000 0 0 s = some b := h1
  rw [h1, h2]
theorem M_count_st (s : ax_S) (n k : Nat) (hk : k < 16) (a : Int32) : M_count_l88 (n + 1) a (nI k) s = M_count_l88 n (a + s.2.1 64 (60 + k)) (nI (k + 1)) s := by
  rw [M_count_l88]
  simp (disch := omega) only [q_12, q_16, q_60, z_0add, nI_add, z_1, z_cl, z_lt0, z_le, z_nle, if_false, or_self, z_10, z_00, if_true]
theorem M_count_l_eq (s : ax_S) : M_count_l88 70000 0 0 s = some (z_sum (fun i => s.2.1 64 (60 + i)) 16) := by
  obtain ⟨b, h1, h2⟩ := z_for (fun n k a => M_count_l88 n a (nI k) s) 16 (fun k a => a = z_sum (fun i => s.2.1 64 (60 + i)) k) (fun b => b = z_sum (fun i => s.2.1 64 (60 + i)) 16) (fun n a ha => ⟨a, by rw [M_count_l88]; exact if_pos (by decide), ha⟩) (fun n k a hk ha => Or.inr ⟨_, M_count_st s n k hk a, by rw [ha]; rfl⟩) 70000 0 0 (by omega) rfl (by omega)
  have h1 : M_count_l88 70000 0 0 s = some b := h1
  rw [h1, h2]
theorem y_count (w : Int32) (s : ax_S) (h : y_inv s.2.1) : ∃ a, X_count w s = some a ∧ M_count w s = some a := by
  obtain ⟨d, x, -, -, h1, h2, h3, h4, h5⟩ := h.1.2.2.2
  obtain ⟨b, -, h6, h7⟩ := h.2.2.1
  obtain ⟨l, -, h8, h9, -⟩ := h.2.2.2.1
  obtain ⟨R, cv, ev, -, h10, h11, -⟩ := h.2.2.2.2.1
  unfold X_count M_count
  rw [XSt_painOfAll_3_eq, M_count_l_eq, z_sum_congr 16 (fun i hi => (h.1.2.1 i hi).1)]
  simp only [XSt_day_3, XLa_howManyRules_36, XTa_length, XSt_x_3, h1, h2, h3, h4, h5, h6, h7, h8, h9, h10, h11]
  repeat' split
  all_goals exact ⟨_, rfl, rfl⟩
theorem X_onp_eq (x y w h : Int32) (s : ax_S) : X_isOnPrint x y w h s = if M_in x 0 15 s = 0 then 0 else if M_in y 0 11 s = 0 then 0 else if M_in w 1 (16 - x) s = 0 then 0 else if M_in h 1 (12 - y) s = 0 then 0 else 1 := rfl
theorem y_shows (x y w hh k : Int32) (s : ax_S) (h : y_inv s.2.1) : ∃ a, X_shows x y w hh k s = some a ∧ M_shows x y w hh k s = some a := by
  have hR : v_R (vX s.2.1 5) (vM s.2.1 64) := h.1.1
  unfold X_shows M_shows
  simp only [X_whole_eq, XFi_meeting_4_eq, XFi_headlessIn_4_eq, M_partlyIn_eq, M_headless_eq, M_whole_eq, X_onp_eq]
  simp only [c_W hR, c_P hR, c_H hR]
  by_cases h1 : M_in x 0 15 s = 0
  · simp only [h1, if_true]; exact ⟨_, rfl, rfl⟩
  by_cases h2 : M_in y 0 11 s = 0
  · simp only [h1, h2, if_true, if_false]; exact ⟨_, rfl, rfl⟩
  by_cases h3 : M_in w 1 (16 - x) s = 0
  · simp only [h1, h2, h3, if_true, if_false]; exact ⟨_, rfl, rfl⟩
  by_cases h4 : M_in hh 1 (12 - y) s = 0
  · simp only [h1, h2, h3, h4, if_true, if_false]; exact ⟨_, rfl, rfl⟩
  simp only [h1, h2, h3, h4, if_false, z_10]
  repeat' split
  all_goals exact ⟨_, rfl, rfl⟩
