/-! law: the reference's stack of what waits -/
theorem M_tp0 {B : Nat → Nat} {n a c d : Nat} {s : ax_S} (h : l_cM B n a c 0 d s) : M_waitTop s = some (-1) := by
  unfold M_waitTop
  rw [h.2.2.1, if_pos (show nI 0 = 0 from rfl)]
theorem M_tp {B : Nat → Nat} {n a c w d k p : Nat} {s : ax_S} (h : l_cM B n a c (w + 1) d s) (hw : w < 260) (hk : k ≤ 14) (hp : p < 1048576) (e : s.2.1 69 w = l_cd k p) : M_waitTop s = some (nI k) := by
  unfold M_waitTop
  rw [h.2.2.1, if_neg (by rw [z_eq0 (by omega)]; omega), show nI (w + 1) - 1 = nI w from z_sub (a := w + 1) (b := 1) (by omega), if_neg (l_in (k := w) (N := 260) (by omega) (by omega)), z_cl (by omega), e, (l_cd1 hk hp).1]
/-- no sign of a sum on top -/
def l_lo (s : ax_S) (w : Nat) : Prop := w = 0 ∨ ∃ k p, 10 ≤ k ∧ k ≤ 14 ∧ p < 1048576 ∧ s.2.1 69 (w - 1) = l_cd k p
theorem lo_g {s t : ax_S} {w c w2 : Nat} (h : l_lo s w) (g : l_gM c w2 s t) (e : w ≤ w2) : l_lo t w := by
  rcases h with h | ⟨k, p, h1, h2, h3, h4⟩
  · exact Or.inl h
  · by_cases c : w = 0
    · exact Or.inl c
    · exact Or.inr ⟨k, p, h1, h2, h3, by rw [g.2.2 _ (by omega)]; exact h4⟩
theorem lo_top {B : Nat → Nat} {n a c w d : Nat} {s : ax_S} (h : l_cM B n a c w d s) (hw : w ≤ 260) (l : l_lo s w) : ∃ v, M_waitTop s = some v ∧ (v = -1 ∨ ∃ k, 10 ≤ k ∧ k ≤ 14 ∧ v = nI k) := by
  rcases l with rfl | ⟨k, p, h1, h2, h3, h4⟩
  · exact ⟨_, M_tp0 h, Or.inl rfl⟩
  · by_cases c : w = 0
    · subst c; exact ⟨_, M_tp0 h, Or.inl rfl⟩
    · obtain ⟨w1, rfl⟩ : ∃ x, w = x + 1 := ⟨w - 1, by omega⟩
      exact ⟨_, M_tp h (by omega) h2 h3 h4, Or.inr ⟨k, h1, h2, rfl⟩⟩
theorem cl_lo {B : Nat → Nat} {n a c w d : Nat} {s : ax_S} (h : l_cM B n a c w d s) (hw : w ≤ 260) (l : l_lo s w) (x : Int32) (f : Nat) : M_closesSums_l0 (f + 1) x s = some s := by
  obtain ⟨v, e, h1⟩ := lo_top h hw l
  rw [M_closesSums_l0, e]
  simp only []
  rcases h1 with rfl | ⟨k, h2, h3, rfl⟩
  · rw [if_pos (by decide)]
    by_cases c0 : x = 0
    · rw [if_pos c0]
    · rw [if_neg c0, if_neg (by decide), if_neg (by decide)]
  · rw [if_neg (by rw [q_4, z_lt (by omega) (by omega)]; omega), if_neg (by rw [q_6, z_le (by omega) (by omega)]; omega)]
    by_cases c0 : x = 0
    · rw [if_pos c0]
    · rw [if_neg c0, if_neg (by rw [q_2, z_eq (by omega) (by omega)]; omega), if_neg (by rw [q_3, z_eq (by omega) (by omega)]; omega)]
theorem cl_st {B : Nat → Nat} {n a c w d k : Nat} {s : ax_S} (h : l_cM B n a c (w + 1) d s) (hw : w < 260) (hk : k = 2 ∨ k = 3) (e : s.2.1 69 w = l_cd k 0) (f : Nat) : M_closesSums_l0 (f + 1) 0 s = some s := by
  rw [M_closesSums_l0, M_tp h hw (k := k) (p := 0) (by omega) (by omega) e]
  simp only []
  rw [if_pos (by rw [q_4, z_lt (by omega) (by omega)]; omega), if_pos trivial]
theorem cl_po {B : Nat → Nat} {n a c w d k : Nat} {s : ax_S} (h : l_cM B n a c (w + 1) d s) (hw : w < 260) (hc : c < 260) (x : Int32) (hk : (4 ≤ k ∧ k ≤ 6) ∨ (x ≠ 0 ∧ (k = 2 ∨ k = 3))) (e : s.2.1 69 w = l_cd k 0) (w2 : Nat) :
    ∃ t, (∀ f, M_closesSums_l0 (f + 1) x s = M_closesSums_l0 f x t) ∧ l_cM B n a (c + 1) w d t ∧ t.2.1 68 c = l_cd k 0 ∧ l_gM c w2 s t := by
  obtain ⟨t, a1, a2, a3, a4⟩ := M_nt h hc k 0 w2
  obtain ⟨b1, b2⟩ := M_po a2 (c + 1) w2
  refine ⟨_, fun f => ?_, b1, by rw [b2.2.1 c (by omega)]; exact a3, gM_tr a4 b2 (by omega) (Nat.le_refl _)⟩
  have a1 : M_notes (nI k) 0 s = some t := a1
  rw [M_closesSums_l0, M_tp h hw (k := k) (p := 0) (by omega) (by omega) e]
  simp only [a1]
  rcases hk with hk | ⟨hx, hk⟩
  · rw [if_neg (by rw [q_4, z_lt (by omega) (by omega)]; omega), if_pos (by rw [q_6, z_le (by omega) (by omega)]; omega)]
  · rw [if_pos (by rw [q_4, z_lt (by omega) (by omega)]; omega), if_neg hx]
    rcases hk with rfl | rfl
    · rw [if_pos (show nI 2 = 2 from rfl)]
    · rw [if_neg (show ¬ nI 3 = 2 by decide), if_pos (show nI 3 = 3 from rfl)]
/-- is a [ open from base on? -/
theorem ho_1 {B : Nat → Nat} {n a c w d : Nat} {s : ax_S} (h : l_cM B n a c w d s) (hw : w ≤ 260) (base k : Nat) (hb : base ≤ k) (hk : k < w) (he : s.2.1 69 k = l_cd 14 0) : M_hasOpenSum (nI base) s = some 1 := by
  obtain ⟨b, h1, h2⟩ := z_for (fun n' i (_ : Unit) => M_hasOpenSum_l2 n' (nI i) s) k (fun i _ => True) (fun b => b = 1) (fun n' _ _ => ⟨1, by
    show M_hasOpenSum_l2 (n' + 1) (nI k) s = some 1
    rw [M_hasOpenSum_l2, h.2.2.1, if_neg (by rw [z_le (by omega) (by omega)]; omega), if_neg (l_in (k := k) (N := 260) (by omega) (by omega)), z_cl (by omega), he, (l_cd1 (k := 14) (p := 0) (by omega) (by omega)).1, if_pos (show nI 14 = 14 from rfl)], rfl⟩) (fun n' i _ hi _ => by
    show (∃ b, M_hasOpenSum_l2 (n' + 1) (nI i) s = some b ∧ b = 1) ∨ ∃ _ : Unit, M_hasOpenSum_l2 (n' + 1) (nI i) s = M_hasOpenSum_l2 n' (nI (i + 1)) s ∧ True
    rw [M_hasOpenSum_l2, h.2.2.1, if_neg (by rw [z_le (by omega) (by omega)]; omega), if_neg (l_in (k := i) (N := 260) (by omega) (by omega)), z_cl (by omega), z_1]
    by_cases c2 : s.2.1 69 i / 1048576 = 14
    · exact Or.inl ⟨1, by rw [if_pos c2], rfl⟩
    · exact Or.inr ⟨(), by rw [if_neg c2], trivial⟩) 70000 base () (by omega) trivial (by omega)
  unfold M_hasOpenSum
  have h1 : M_hasOpenSum_l2 70000 (nI base) s = some b := h1
  rw [h1, h2]
theorem ho_0 {B : Nat → Nat} {n a c w d : Nat} {s : ax_S} (h : l_cM B n a c w d s) (hw : w ≤ 260) (base : Nat) (hb : base ≤ w) (he : ∀ k, base ≤ k → k < w → ∃ q, q ≤ 13 ∧ s.2.1 69 k = l_cd q 0) : M_hasOpenSum (nI base) s = some 0 := by
  obtain ⟨b, h1, h2⟩ := z_for (fun n' i (_ : Unit) => M_hasOpenSum_l2 n' (nI i) s) w (fun i _ => base ≤ i) (fun b => b = 0) (fun n' _ _ => ⟨0, by
    show M_hasOpenSum_l2 (n' + 1) (nI w) s = some 0
    rw [M_hasOpenSum_l2, h.2.2.1, if_pos (by rw [z_le (by omega) (by omega)]; omega)], rfl⟩) (fun n' i _ hi hbi => by
    show (∃ b, M_hasOpenSum_l2 (n' + 1) (nI i) s = some b ∧ b = 0) ∨ ∃ _ : Unit, M_hasOpenSum_l2 (n' + 1) (nI i) s = M_hasOpenSum_l2 n' (nI (i + 1)) s ∧ base ≤ i + 1
    obtain ⟨q, q1, q2⟩ := he i hbi hi
    rw [M_hasOpenSum_l2, h.2.2.1, if_neg (by rw [z_le (by omega) (by omega)]; omega), if_neg (l_in (k := i) (N := 260) (by omega) (by omega)), z_cl (by omega), z_1, q2, (l_cd1 (k := q) (p := 0) (by omega) (by omega)).1, if_neg (by rw [q_14, z_eq (by omega) (by omega)]; omega)]
    exact Or.inr ⟨(), rfl, by omega⟩) 70000 base () (by omega) (Nat.le_refl _) (by omega)
  unfold M_hasOpenSum
  have h1 : M_hasOpenSum_l2 70000 (nI base) s = some b := h1
  rw [h1, h2]
/-- a term behind j, where w0 wait below it: closed, or its last * / % waits -/
def l_mT (t : ax_S) (j w0 c w mT : Nat) (T : (Nat → Int32) → Option Int32) (D : Nat) : Prop :=
  (c = j + mT ∧ w = w0 ∧ l_oM t j mT T (D + 1)) ∨
  (∃ m1 m2 T1 T2 kd op, mT = m1 + m2 + 1 ∧ c = j + m1 + m2 ∧ w = w0 + 1 ∧ l_oM t j m1 T1 (D + 1) ∧ l_oM t (j + m1) m2 T2 D ∧ t.2.1 69 w0 = l_cd kd 0 ∧ 4 ≤ kd ∧ kd ≤ 6 ∧ l_kd kd op ∧ T = fun E => l_join op (T1 E) (T2 E))
theorem mT_cl {B : Nat → Nat} {n a j w0 c w d mT D : Nat} {T : (Nat → Int32) → Option Int32} {t : ax_S} (h : l_cM B n a c w d t) (g : l_mT t j w0 c w mT T D) (hD : 1 ≤ D) (hw : w ≤ 260) (hc : j + mT ≤ 260) (x : Int32) (w2 : Nat) :
    ∃ u, (∀ f, ∃ f2, f ≤ f2 ∧ M_closesSums_l0 (f + 1) x t = M_closesSums_l0 f2 x u) ∧ l_cM B n a (j + mT) w0 d u ∧ l_oM u j mT T (D + 1) ∧ l_gM j w2 t u := by
  rcases g with ⟨rfl, rfl, g1⟩ | ⟨m1, m2, T1, T2, kd, op, rfl, rfl, rfl, g1, g2, g3, g4, g5, g6, rfl⟩
  · exact ⟨t, fun f => ⟨f + 1, by omega, rfl⟩, h, g1, gM_refl _ _ _⟩
  · obtain ⟨u, a1, a2, a3, a4⟩ := cl_po h (by omega) (by omega) x (Or.inl ⟨g4, g5⟩) g3 w2
    refine ⟨u, fun f => ⟨f, Nat.le_refl _, a1 f⟩, by rw [show j + (m1 + m2 + 1) = j + m1 + m2 + 1 by omega]; exact a2, ?_, gM_le a4 (by omega) (Nat.le_refl _)⟩
    exact sgM_le (l_sgM_op (oM_cg g1 a4 (by omega)) (oM_cg g2 a4 (by omega)) a3 g6) (by omega)
