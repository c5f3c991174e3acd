/-! who touches whom -/
def k_tP (F : z_V) (i j : Nat) : Prop :=
  (v_n F 1 i ≤ v_n F 1 j + v_n F 3 j ∧ v_n F 1 j ≤ v_n F 1 i + v_n F 3 i ∧ v_n F 2 i < v_n F 2 j + v_n F 4 j ∧ v_n F 2 j < v_n F 2 i + v_n F 4 i) ∨
  (v_n F 1 i < v_n F 1 j + v_n F 3 j ∧ v_n F 1 j < v_n F 1 i + v_n F 3 i ∧ v_n F 2 i ≤ v_n F 2 j + v_n F 4 j ∧ v_n F 2 j ≤ v_n F 2 i + v_n F 4 i)
theorem zm_le {r a : Nat} (hr : r < 1000) (ha : a < 1000) : (nI r ≤ nI a - 1) = (r < a) := by
  rw [Int32.le_iff_toInt_le, show (1 : Int32) = nI 1 from rfl, pk_sub_toInt (by omega) (by omega), nI_toInt (by omega)]
  exact propext (by omega)
theorem zm_add (a b : Nat) : nI a - 1 + nI (b + 2) = nI (a + b + 1) := by
  rw [show nI (b + 2) = 1 + nI (b + 1) by rw [q_1, nI_add, show 1 + (b + 1) = b + 2 by omega], ← Int32.add_assoc, Int32.sub_add_cancel, nI_add]
  rfl
theorem zs_le0 {a b : Nat} (ha : a < 1073741824) (hb : b < 1073741824) : (nI a - nI b ≤ 0) = (a ≤ b) := by
  rw [Int32.le_iff_toInt_le, pk_sub_toInt (by omega) (by omega)]
  have : (0 : Int32).toInt = 0 := rfl
  rw [this]
  exact propext (by omega)
theorem zs_0le {a b : Nat} (ha : a < 1073741824) (hb : b < 1073741824) : (0 ≤ nI a - nI b) = (b ≤ a) := by
  rw [Int32.le_iff_toInt_le, pk_sub_toInt (by omega) (by omega)]
  have : (0 : Int32).toInt = 0 := rfl
  rw [this]
  exact propext (by omega)
theorem v_in_at {s : ax_S} {F : z_V} (ha : v_at s.2.1 5 F) {i : Nat} (hi : i < 12) (x y w h : Int32) : v_in (vX s.2.1 5) i x y w h = v_in F i x y w h := by
  unfold v_in vX
  rw [ha 1 i (by omega) hi, ha 2 i (by omega) hi, ha 3 i (by omega) hi, ha 4 i (by omega) hi]
theorem X_touch_eq {s : ax_S} {F : z_V} (ha : v_at s.2.1 5 F) (hv : v_val F) {i j : Nat} (hi : i < 12) (hj : j < 12) : (XFi_touch_4 (nI i) (nI j) s = some 1 ∧ ¬ F 0 i = -1 ∧ ¬ F 0 j = -1 ∧ k_tP F i j) ∨ (XFi_touch_4 (nI i) (nI j) s = some 0 ∧ ¬ (¬ F 0 i = -1 ∧ ¬ F 0 j = -1 ∧ k_tP F i j)) := by
  unfold XFi_touch_4
  have e0 : s.2.1 5 i = F 0 i := ha 0 i (by omega) hi
  have f0 : s.2.1 5 j = F 0 j := ha 0 j (by omega) hj
  have f1 : s.2.1 6 j = F 1 j := ha 1 j (by omega) hj
  have f2 : s.2.1 7 j = F 2 j := ha 2 j (by omega) hj
  have f3 : s.2.1 8 j = F 3 j := ha 3 j (by omega) hj
  have f4 : s.2.1 9 j = F 4 j := ha 4 j (by omega) hj
  rw [X_told_eq s i hi, X_told_eq s j hj, e0, f0]
  by_cases ti : F 0 i = -1
  · exact Or.inr ⟨by simp [ti], fun q => q.1 ti⟩
  by_cases tj : F 0 j = -1
  · exact Or.inr ⟨by simp [ti, tj], fun q => q.2.1 tj⟩
  simp (disch := omega) only [ti, tj, if_false, z_10, z_cl, z_lt0, z_nle, or_self]
  rw [X_meets_eq s i hi, X_meets_eq s i hi, e0, v_in_at ha hi, v_in_at ha hi, f1, f2, f3, f4]
  simp only [ti, if_false]
  rcases hv i hi with c | ⟨-, g1, g2, g3, g4, b0, b1, b2, b3, b4⟩
  · exact absurd c ti
  rcases hv j hj with c | ⟨-, k1, k2, k3, k4, d0, d1, d2, d3, d4⟩
  · exact absurd c tj
  rw [k1, k2, k3, k4]
  have m1 : (v_in F i (nI (v_n F 1 j) - 1) (nI (v_n F 2 j)) (nI (v_n F 3 j) + 2) (nI (v_n F 4 j)) = 0) = ¬ (v_n F 1 i ≤ v_n F 1 j + v_n F 3 j ∧ v_n F 1 j ≤ v_n F 1 i + v_n F 3 i ∧ v_n F 2 i < v_n F 2 j + v_n F 4 j ∧ v_n F 2 j < v_n F 2 i + v_n F 4 i) := by
    unfold v_in
    rw [g1, g2, g3, g4, show nI (v_n F 3 j) + 2 = nI (v_n F 3 j + 2) by rw [q_2, nI_add], zm_add]
    simp (disch := omega) only [nI_add, z_le, zm_le]
    by_cases c1 : v_n F 1 j + v_n F 3 j + 1 ≤ v_n F 1 i <;> by_cases c2 : v_n F 1 i + v_n F 3 i < v_n F 1 j <;> by_cases c3 : v_n F 2 j + v_n F 4 j ≤ v_n F 2 i <;> by_cases c4 : v_n F 2 i + v_n F 4 i ≤ v_n F 2 j <;> simp [c1, c2, c3, c4] <;> omega
  have m2 : (v_in F i (nI (v_n F 1 j)) (nI (v_n F 2 j) - 1) (nI (v_n F 3 j)) (nI (v_n F 4 j) + 2) = 0) = ¬ (v_n F 1 i < v_n F 1 j + v_n F 3 j ∧ v_n F 1 j < v_n F 1 i + v_n F 3 i ∧ v_n F 2 i ≤ v_n F 2 j + v_n F 4 j ∧ v_n F 2 j ≤ v_n F 2 i + v_n F 4 i) := by
    unfold v_in
    rw [g1, g2, g3, g4, show nI (v_n F 4 j) + 2 = nI (v_n F 4 j + 2) by rw [q_2, nI_add], zm_add]
    simp (disch := omega) only [nI_add, z_le, zm_le]
    by_cases c1 : v_n F 1 j + v_n F 3 j ≤ v_n F 1 i <;> by_cases c2 : v_n F 1 i + v_n F 3 i ≤ v_n F 1 j <;> by_cases c3 : v_n F 2 j + v_n F 4 j + 1 ≤ v_n F 2 i <;> by_cases c4 : v_n F 2 i + v_n F 4 i < v_n F 2 j <;> simp [c1, c2, c3, c4] <;> omega
  simp only [m1, m2]
  unfold k_tP
  by_cases p : v_n F 1 i ≤ v_n F 1 j + v_n F 3 j ∧ v_n F 1 j ≤ v_n F 1 i + v_n F 3 i ∧ v_n F 2 i < v_n F 2 j + v_n F 4 j ∧ v_n F 2 j < v_n F 2 i + v_n F 4 i
  · exact Or.inl ⟨by rw [if_neg (not_not_intro p)], id, id, Or.inl p⟩
  · rw [if_pos p]
    by_cases r : v_n F 1 i < v_n F 1 j + v_n F 3 j ∧ v_n F 1 j < v_n F 1 i + v_n F 3 i ∧ v_n F 2 i ≤ v_n F 2 j + v_n F 4 j ∧ v_n F 2 j ≤ v_n F 2 i + v_n F 4 i
    · exact Or.inl ⟨by rw [if_neg (not_not_intro r)], id, id, Or.inr r⟩
    · exact Or.inr ⟨by rw [if_pos r], fun q => by rcases q.2.2 with q | q; exact p q; exact r q⟩
theorem M_touch_eq {s : ax_S} {F : z_V} (ha : v_aM s.2.1 F) (hv : v_val F) {i j : Nat} (hi : i < 12) (hj : j < 12) (ti : ¬ F 0 i = -1) (tj : ¬ F 0 j = -1) : (M_touch (nI i) (nI j) s = some 1 ∧ k_tP F i j) ∨ (M_touch (nI i) (nI j) s = some 0 ∧ ¬ k_tP F i j) := by
  unfold M_touch
  rw [M_right_eq s i hi, M_right_eq s j hj, M_below_eq s i hi, M_below_eq s j hj]
  simp (disch := omega) only [q_12, q_24, nI_add, z_cl, z_lt0, z_nle, if_false, or_self]
  rw [show s.2.1 64 (12 + i) = F 1 i from ha 1 i (by omega) hi, show s.2.1 64 (24 + i) = F 2 i from ha 2 i (by omega) hi, show s.2.1 64 (12 + j) = F 1 j from ha 1 j (by omega) hj, show s.2.1 64 (24 + j) = F 2 j from ha 2 j (by omega) hj]
  have x1 : vM s.2.1 64 1 i = F 1 i := ha 1 i (by omega) hi
  have x2 : vM s.2.1 64 2 i = F 2 i := ha 2 i (by omega) hi
  have x3 : vM s.2.1 64 3 i = F 3 i := ha 3 i (by omega) hi
  have x4 : vM s.2.1 64 4 i = F 4 i := ha 4 i (by omega) hi
  have w1 : vM s.2.1 64 1 j = F 1 j := ha 1 j (by omega) hj
  have w2 : vM s.2.1 64 2 j = F 2 j := ha 2 j (by omega) hj
  have w3 : vM s.2.1 64 3 j = F 3 j := ha 3 j (by omega) hj
  have w4 : vM s.2.1 64 4 j = F 4 j := ha 4 j (by omega) hj
  rw [x1, x2, x3, x4, w1, w2, w3, w4]
  rcases hv i hi with c | ⟨-, g1, g2, g3, g4, b0, b1, b2, b3, b4⟩
  · exact absurd c ti
  rcases hv j hj with c | ⟨-, k1, k2, k3, k4, d0, d1, d2, d3, d4⟩
  · exact absurd c tj
  rw [g1, g2, g3, g4, k1, k2, k3, k4]
  unfold M_min M_max
  simp (disch := omega) only [nI_add, z_le]
  unfold k_tP
  by_cases c1 : v_n F 1 j + v_n F 3 j ≤ v_n F 1 i + v_n F 3 i <;> by_cases c2 : v_n F 1 i ≤ v_n F 1 j <;> by_cases c3 : v_n F 2 j + v_n F 4 j ≤ v_n F 2 i + v_n F 4 i <;> by_cases c4 : v_n F 2 i ≤ v_n F 2 j <;> simp (disch := omega) only [c1, c2, c3, c4, if_true, if_false, zs_le0, s_neg, zs_0le] <;> (repeat' split) <;> first | exact Or.inl ⟨rfl, by omega⟩ | exact Or.inr ⟨rfl, by omega⟩
/-- whom one touches, by figures up to (i, k) -/
def kt_T (F : z_V) (i k p q : Nat) : Prop := ∃ a b, (a < i ∨ (a = i ∧ b < k)) ∧ a < 12 ∧ b < 12 ∧ ¬ F 0 a = -1 ∧ ¬ F 0 b = -1 ∧ v_n F 0 a = p ∧ v_n F 0 b = q ∧ q ≠ p ∧ k_tP F a b
theorem kt_T0 (F : z_V) (p q : Nat) : ¬ kt_T F 0 0 p q := fun ⟨a, b, h, _⟩ => by omega
theorem kt_T12 (F : z_V) (i p q : Nat) : kt_T F i 12 p q ↔ kt_T F (i + 1) 0 p q := by
  unfold kt_T
  constructor
  · rintro ⟨a, b, h, h2⟩; exact ⟨a, b, by omega, h2⟩
  · rintro ⟨a, b, h, h1, h2, h3⟩; exact ⟨a, b, by omega, h1, h2, h3⟩
def k_new (F : z_V) (i k p q : Nat) : Prop := ¬ F 0 i = -1 ∧ ¬ F 0 k = -1 ∧ v_n F 0 i = p ∧ v_n F 0 k = q ∧ q ≠ p ∧ k_tP F i k
theorem kt_Ts (F : z_V) {i k : Nat} (hi : i < 12) (hk : k < 12) (p q : Nat) : kt_T F i (k + 1) p q ↔ kt_T F i k p q ∨ k_new F i k p q := by
  unfold kt_T k_new
  constructor
  · rintro ⟨a, b, h, h1, h2, h3⟩
    by_cases e : a = i ∧ b = k
    · obtain ⟨rfl, rfl⟩ := e; exact Or.inr h3
    · exact Or.inl ⟨a, b, by omega, h1, h2, h3⟩
  · rintro (⟨a, b, h, h1⟩ | h)
    · exact ⟨a, b, by omega, h1⟩
    · exact ⟨i, k, by omega, hi, hk, h⟩
def k_all (F : z_V) (p q : Nat) : Prop := kt_T F 12 0 p q
def k_is (F : z_V) (p m : Nat) : Prop := m < 65536 ∧ ∀ q, m.testBit q = true ↔ k_all F p q
noncomputable def k_tb (F : z_V) (p : Nat) : Nat := z_nor (fun q => @ite Nat (k_all F p q) (Classical.propDecidable _) (2 ^ q) 0) 16
theorem k_tb_is {F : z_V} (hv : v_val F) (p : Nat) : k_is F p (k_tb F p) := by
  refine ⟨z_nor_lt 16 fun i hi => ?_, fun q => ?_⟩
  · by_cases c : k_all F p i
    · rw [if_pos c]; exact x_plt hi
    · rw [if_neg c]; omega
  · unfold k_tb
    rw [z_nor_tb]
    constructor
    · rintro ⟨i, hi, e⟩
      by_cases c : k_all F p i
      · rw [if_pos c, x_pow] at e
        have e := of_decide_eq_true e
        rw [← e]; exact c
      · rw [if_neg c] at e; simp at e
    · intro h
      have hq : q < 16 := by
        obtain ⟨a, b, -, -, hb, -, tb, -, e, -⟩ := h
        rcases hv b hb with c | c
        · exact absurd c tb
        · have := c.2.2.2.2.2.1; omega
      exact ⟨q, hq, by rw [if_pos h, x_pow]; simp⟩
theorem k_is_eq {F : z_V} {p m m' : Nat} (h : k_is F p m) (h' : k_is F p m') : m = m' := x_ext h.1 h'.1 fun i _ => by
  have := (h.2 i).trans (h'.2 i).symm
  revert this
  cases m.testBit i <;> cases m'.testBit i <;> simp
theorem J_fill_58_eq (s : ax_S) : ∃ s', J_fill_58 0 s = some s' ∧ (∀ j, j < 16 → s'.2.1 58 j = 0) ∧ (∀ c, c ≠ 58 → s'.2.1 c = s.2.1 c) := by
  unfold J_fill_58
  obtain ⟨b, h1, h2⟩ := z_for (fun n k (a : ax_S) => J_fill_58_l5 n 0 (nI k) 16 a) 16 (fun k a => (∀ j, j < k → a.2.1 58 j = 0) ∧ (∀ c, c ≠ 58 → a.2.1 c = s.2.1 c)) (fun b => (∀ j, j < 16 → b.2.1 58 j = 0) ∧ (∀ c, c ≠ 58 → b.2.1 c = s.2.1 c)) (fun n a ha => ⟨a, by
      show J_fill_58_l5 (n + 1) 0 (nI 16) 16 a = some a
      rw [J_fill_58_l5]
      exact if_pos (by decide), ha⟩) (fun n k a hk ha => Or.inr ⟨ax_sI a 58 k 0, by
      show J_fill_58_l5 (n + 1) 0 (nI k) 16 a = J_fill_58_l5 n 0 (nI (k + 1)) 16 _
      rw [J_fill_58_l5]
      simp (disch := omega) only [q_16, z_1, z_cl, z_lt0, z_le, z_nle, if_false, or_self], by
      refine ⟨fun j hj => ?_, fun c hc => ?_⟩
      · rw [r_Ie]
        by_cases hjk : j = k
        · subst hjk; rw [r_u]
        · rw [r_un hjk]; exact ha.1 j (by omega)
      · rw [r_I hc]; exact ha.2 c hc⟩) 70000 0 s (by omega) ⟨fun j hj => absurd hj (Nat.not_lt_zero _), fun _ _ => rfl⟩ (by omega)
  have h1 : J_fill_58_l5 70000 0 0 16 s = some b := h1
  rw [h1]
  exact ⟨b, rfl, h2⟩
def k_row (F : z_V) (s : ax_S) (i k : Nat) : Prop := ∀ p, p < 16 → ∃ m, m < 65536 ∧ s.2.1 58 p = nI m ∧ ∀ q, m.testBit q = true ↔ kt_T F i k p q
theorem X_part0 {s : ax_S} {F : z_V} (ha : v_at s.2.1 5 F) {i : Nat} (hi : i < 12) : XFi_part_4 (nI i) 0 s = some (F 0 i) := by
  unfold XFi_part_4
  have e0 : s.2.1 5 i = F 0 i := ha 0 i (by omega) hi
  rw [X_told_eq s i hi, e0]
  simp (disch := omega) only [z_cl, z_lt0, z_nle, if_false, or_self]
  rw [e0]
  by_cases c : F 0 i = -1
  · simp [c]
  · simp [c]
theorem X_meet_in {s : ax_S} {F : z_V} (ha : v_at s.2.1 5 F) (hv : v_val F) {i : Nat} (hi : i < 12) (hr : k_row F s i 0) : ∃ s', XKi_meet_4_l18 70000 (nI i) 0 s = some s' ∧ k_row F s' (i + 1) 0 ∧ (∀ c, c ≠ 58 → s'.2.1 c = s.2.1 c) := by
  obtain ⟨b, h1, h2⟩ := z_for (fun n k (a : ax_S) => XKi_meet_4_l18 n (nI i) (nI k) a) 12 (fun k a => k_row F a i k ∧ (∀ c, c ≠ 58 → a.2.1 c = s.2.1 c)) (fun a => k_row F a (i + 1) 0 ∧ (∀ c, c ≠ 58 → a.2.1 c = s.2.1 c)) (fun n a h => ⟨a, by
      show XKi_meet_4_l18 (n + 1) (nI i) (nI 12) a = some a
      rw [XKi_meet_4_l18]
      exact if_pos (by decide), fun p hp => by
      obtain ⟨m, m1, m2, m3⟩ := h.1 p hp
      exact ⟨m, m1, m2, fun q => (m3 q).trans (kt_T12 F i p q)⟩, h.2⟩) (fun n k a hk h => Or.inr (by
      show ∃ a', XKi_meet_4_l18 (n + 1) (nI i) (nI k) a = XKi_meet_4_l18 n (nI i) (nI (k + 1)) a' ∧ _
      have hat : v_at a.2.1 5 F := v_at_fr ha fun c _ _ => h.2 c (by omega)
      have hskip : (∀ p q, ¬ k_new F i k p q) → k_row F a i (k + 1) := fun hn p hp => by
        obtain ⟨m, m1, m2, m3⟩ := h.1 p hp
        exact ⟨m, m1, m2, fun q => (m3 q).trans ⟨fun e => (kt_Ts F hi hk p q).mpr (Or.inl e), fun e => by
          rcases (kt_Ts F hi hk p q).mp e with e | e
          · exact e
          · exact absurd e (hn p q)⟩⟩
      rw [XKi_meet_4_l18, X_part0 hat hi]
      simp (disch := omega) only [q_12, z_1, z_le, z_nle, if_false]
      by_cases ti : F 0 i = -1
      · refine ⟨a, ?_, hskip fun p q e => e.1 ti, h.2⟩
        rw [ti]
        rw [if_pos (show X_isPerson (-1) a = 0 by unfold X_isPerson X_isWithin; decide)]
      · have ei : F 0 i = nI (v_n F 0 i) ∧ v_n F 0 i < 16 := by
          rcases hv i hi with c | c
          · exact absurd c ti
          · exact ⟨c.1, c.2.2.2.2.2.1⟩
        have hp0 := ei.2
        rw [ei.1]
        have hper : ¬ X_isPerson (nI (v_n F 0 i)) a = 0 := z_innX (x := 0) (s := a) 0 15 (by omega) (by omega) (Nat.zero_le _) (by omega)
        rw [if_neg hper]
        rcases X_touch_eq hat hv hi hk with ⟨e1, -, tk, e2⟩ | ⟨e1, e2⟩
        · rw [e1, X_pbit2 hat hv hk, if_neg tk]
          simp (disch := omega) only [z_10, z_cl, z_lt0, z_nle, if_false, or_self]
          obtain ⟨m, m1, m2, m3⟩ := h.1 (v_n F 0 i) hp0
          have hk16 : v_n F 0 k < 16 := by
            rcases hv k hk with c | c
            · exact absurd c tk
            · exact c.2.2.2.2.2.1
          rw [m2, x_shl _ (by omega), x_not (x_plt hk16), x_or]
          refine ⟨_, rfl, fun p hp => ?_, fun c hc => by rw [r_I hc]; exact h.2 c hc⟩
          by_cases ep : p = v_n F 0 i
          · rw [ep]
            refine ⟨m ||| x_sub (2 ^ v_n F 0 k) (2 ^ v_n F 0 i), x_orlt m1 (x_sublt (x_plt hk16) _), by rw [r_Ie, r_u], fun q => ?_⟩
            rw [Nat.testBit_or, Bool.or_eq_true, m3, kt_Ts F hi hk, x_tsub (x_plt hk16), x_pow, x_pow]
            unfold k_new
            constructor
            · rintro (e | e)
              · exact Or.inl e
              · have e3 : v_n F 0 k = q ∧ ¬ v_n F 0 i = q := by simpa using e
                exact Or.inr ⟨ti, tk, rfl, e3.1, fun e => e3.2 e.symm, e2⟩
            · rintro (e | e)
              · exact Or.inl e
              · exact Or.inr (by simp [e.2.2.2.1]; exact fun e5 => e.2.2.2.2.1 e5.symm)
          · obtain ⟨m', n1, n2, n3⟩ := h.1 p hp
            refine ⟨m', n1, by rw [r_Ie, r_un ep]; exact n2, fun q => (n3 q).trans ⟨fun e => (kt_Ts F hi hk p q).mpr (Or.inl e), fun e => by
              rcases (kt_Ts F hi hk p q).mp e with e | e
              · exact e
              · exact absurd e.2.2.1.symm ep⟩⟩
        · rw [e1]
          exact ⟨a, rfl, hskip fun p q e => e2 ⟨e.1, e.2.1, e.2.2.2.2.2⟩, h.2⟩)) 70000 0 s (by omega) ⟨hr, fun _ _ => rfl⟩ (by omega)
  exact ⟨b, h1, h2⟩
theorem X_meet_eq {s : ax_S} {F : z_V} (ha : v_at s.2.1 5 F) (hv : v_val F) : ∃ s', XKi_meet_4 s = some s' ∧ (∀ p, p < 16 → s'.2.1 58 p = nI (k_tb F p)) ∧ (∀ c, c ≠ 58 → s'.2.1 c = s.2.1 c) := by
  unfold XKi_meet_4
  obtain ⟨s1, g1, g2, g3⟩ := J_fill_58_eq s
  obtain ⟨b, h1, h2⟩ := z_for (fun n k (a : ax_S) => XKi_meet_4_l10 n (nI k) a) 12 (fun k a => k_row F a k 0 ∧ (∀ c, c ≠ 58 → a.2.1 c = s1.2.1 c)) (fun a => k_row F a 12 0 ∧ (∀ c, c ≠ 58 → a.2.1 c = s1.2.1 c)) (fun n a h => ⟨a, by
      show XKi_meet_4_l10 (n + 1) (nI 12) a = some a
      rw [XKi_meet_4_l10]
      exact if_pos (by decide), h⟩) (fun n k a hk h => Or.inr (by
      obtain ⟨s', e1, e2, e3⟩ := X_meet_in (s := a) (v_at_fr ha fun c _ _ => by rw [h.2 c (by omega), g3 c (by omega)]) hv hk h.1
      refine ⟨s', ?_, e2, fun c hc => by rw [e3 c hc]; exact h.2 c hc⟩
      show XKi_meet_4_l10 (n + 1) (nI k) a = XKi_meet_4_l10 n (nI (k + 1)) s'
      rw [XKi_meet_4_l10]
      simp (disch := omega) only [q_12, z_1, z_le, z_nle, if_false]
      rw [e1])) 70000 0 s1 (by omega) ⟨fun p hp => ⟨0, by omega, g2 p hp, fun q => ⟨fun e => by simp at e, fun e => absurd e (kt_T0 F p q)⟩⟩, fun _ _ => rfl⟩ (by omega)
  have h1 : XKi_meet_4_l10 70000 0 s1 = some b := h1
  simp only [g1, h1]
  refine ⟨b, rfl, fun p hp => ?_, fun c hc => by rw [h2.2 c hc, g3 c hc]⟩
  obtain ⟨m, m1, m2, m3⟩ := h2.1 p hp
  rw [m2, k_is_eq ⟨m1, m3⟩ (k_tb_is hv p)]
theorem M_tb_in {s : ax_S} {F : z_V} (ha : v_aM s.2.1 F) (hv : v_val F) {i p m0 : Nat} (hi : i < 12) (hp : p < 16) (h0 : m0 < 65536) (hm : ∀ q, m0.testBit q = true ↔ kt_T F i 0 p q) : ∃ m, m < 65536 ∧ M_touchedBy_l13 70000 (nI p) (nI m0) (nI i) 0 s = some (nI m) ∧ ∀ q, m.testBit q = true ↔ kt_T F (i + 1) 0 p q := by
  have fe : ∀ k, k < 12 → s.2.1 64 k = F 0 k := fun k hk => by have := ha 0 k (by omega) hk; rwa [Nat.mul_zero, Nat.zero_add] at this
  obtain ⟨b, h1, h2⟩ := z_for (fun n k (m : Nat) => M_touchedBy_l13 n (nI p) (nI m) (nI i) (nI k) s) 12 (fun k m => m < 65536 ∧ ∀ q, m.testBit q = true ↔ kt_T F i k p q) (fun v => ∃ m, m < 65536 ∧ v = nI m ∧ ∀ q, m.testBit q = true ↔ kt_T F (i + 1) 0 p q) (fun n m h => ⟨nI m, by
      show M_touchedBy_l13 (n + 1) (nI p) (nI m) (nI i) (nI 12) s = some (nI m)
      rw [M_touchedBy_l13]
      exact if_pos (by decide), m, h.1, rfl, fun q => (h.2 q).trans (kt_T12 F i p q)⟩) (fun n k m hk h => Or.inr (by
      show ∃ m', M_touchedBy_l13 (n + 1) (nI p) (nI m) (nI i) (nI k) s = M_touchedBy_l13 n (nI p) (nI m') (nI i) (nI (k + 1)) s ∧ _
      have hskip : (∀ q, ¬ k_new F i k p q) → m < 65536 ∧ ∀ q, m.testBit q = true ↔ kt_T F i (k + 1) p q := fun hn => ⟨h.1, fun q => (h.2 q).trans ⟨fun e => (kt_Ts F hi hk p q).mpr (Or.inl e), fun e => by
          rcases (kt_Ts F hi hk p q).mp e with e | e
          · exact e
          · exact absurd e (hn q)⟩⟩
      rw [M_touchedBy_l13, M_fig_eq s k hk]
      simp (disch := omega) only [q_12, z_0add, z_1, z_cl, z_lt0, z_le, z_nle, if_false, or_self]
      rw [fe i hi, fe k hk]
      by_cases ei : F 0 i = nI p
      · rw [if_pos ei]
        have ti : ¬ F 0 i = -1 := by rw [ei]; rw [z_nne (by omega)]; exact id
        have evi : v_n F 0 i = p := by unfold v_n; rw [ei, z_cl (by omega)]
        by_cases tk : F 0 k = -1
        · exact ⟨m, by simp [tk], hskip fun q e => e.2.1 tk⟩
        · simp only [tk, if_false, z_10]
          have ek : F 0 k = nI (v_n F 0 k) ∧ v_n F 0 k < 16 := by
            rcases hv k hk with c | c
            · exact absurd c tk
            · exact ⟨c.1, c.2.2.2.2.2.1⟩
          have hk16 := ek.2
          rw [ek.1]
          simp only [z_eq (show v_n F 0 k < 2147483648 by omega) (show p < 2147483648 by omega)]
          by_cases c : v_n F 0 k = p
          · rw [if_pos c]
            exact ⟨m, rfl, hskip fun q e => e.2.2.2.2.1 (by rw [← e.2.2.2.1]; exact c)⟩
          · rw [if_neg c]
            rcases M_touch_eq ha hv hi hk ti tk with ⟨e1, e2⟩ | ⟨e1, e2⟩
            · rw [e1, x_shl _ (by omega), x_or]
              refine ⟨m ||| 2 ^ v_n F 0 k, by simp, x_orlt h.1 (x_plt hk16), fun q => ?_⟩
              rw [fb_bit_set, Bool.or_eq_true, h.2, kt_Ts F hi hk]
              unfold k_new
              constructor
              · rintro (e | e)
                · exact Or.inl e
                · have e := of_decide_eq_true e
                  exact Or.inr ⟨ti, tk, evi, e.symm, by rw [e]; exact c, e2⟩
              · rintro (e | e)
                · exact Or.inl e
                · exact Or.inr (by simp [e.2.2.2.1])
            · rw [e1]
              exact ⟨m, by simp, hskip fun q e => e2 e.2.2.2.2.2⟩
      · rw [if_neg ei]
        refine ⟨m, rfl, hskip fun q e => ei ?_⟩
        rcases hv i hi with c | c
        · exact absurd c e.1
        · rw [c.1, e.2.2.1])) 70000 0 m0 (by omega) ⟨h0, hm⟩ (by omega)
  obtain ⟨m, g1, rfl, g2⟩ := h2
  exact ⟨m, g1, h1, g2⟩
theorem M_tb_eq {s : ax_S} {F : z_V} (ha : v_aM s.2.1 F) (hv : v_val F) {p : Nat} (hp : p < 16) : M_touchedBy (nI p) s = some (nI (k_tb F p)) := by
  unfold M_touchedBy
  obtain ⟨b, h1, h2⟩ := z_for (fun n k (m : Nat) => M_touchedBy_l4 n (nI p) (nI m) (nI k) s) 12 (fun k m => m < 65536 ∧ ∀ q, m.testBit q = true ↔ kt_T F k 0 p q) (fun v => ∃ m, v = nI m ∧ k_is F p m) (fun n m h => ⟨nI m, by
      show M_touchedBy_l4 (n + 1) (nI p) (nI m) (nI 12) s = some (nI m)
      rw [M_touchedBy_l4]
      exact if_pos (by decide), m, rfl, h⟩) (fun n k m hk h => Or.inr (by
      obtain ⟨m', e1, e2, e3⟩ := M_tb_in ha hv hk hp h.1 h.2
      refine ⟨m', ?_, e1, e3⟩
      show M_touchedBy_l4 (n + 1) (nI p) (nI m) (nI k) s = M_touchedBy_l4 n (nI p) (nI m') (nI (k + 1)) s
      rw [M_touchedBy_l4]
      simp (disch := omega) only [q_12, z_1, z_le, z_nle, if_false]
      rw [e2])) 70000 0 0 (by omega) ⟨by omega, fun q => ⟨fun e => by simp at e, fun e => absurd e (kt_T0 F p q)⟩⟩ (by omega)
  have h1 : M_touchedBy_l4 70000 (nI p) 0 0 s = some b := h1
  obtain ⟨m, rfl, g⟩ := h2
  rw [h1, k_is_eq g (k_tb_is hv p)]
