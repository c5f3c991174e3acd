/-! seen, covered, straight lines, the middle, mirror -/
def sn_rm (F : z_V) (k0 y : Nat) : Nat := z_nor (fun i => if i < k0 then 0 else v_cm F i y) 12
theorem sn_rm_lt {F : z_V} (hv : v_val F) (k0 y : Nat) : sn_rm F k0 y < 65536 := z_nor_lt 12 fun i hi => by
  split
  · omega
  · exact v_cm_lt hv hi y
theorem sn_rm_tb (F : z_V) (k0 y x : Nat) : (sn_rm F k0 y).testBit x = true ↔ ∃ i, k0 ≤ i ∧ i < 12 ∧ v_cell F i x y := by
  unfold sn_rm
  rw [z_nor_tb]
  constructor
  · rintro ⟨i, hi, e⟩
    by_cases c : i < k0
    · rw [if_pos c] at e; simp at e
    · rw [if_neg c, v_cm_tb] at e; exact ⟨i, by omega, hi, e⟩
  · rintro ⟨i, h0, hi, e⟩
    exact ⟨i, hi, by rw [if_neg (by omega), v_cm_tb]; exact e⟩
theorem sn_65535 : ∀ p, p < 16 → (65535 : Nat).testBit p = true := by decide
theorem sn_oc {F : z_V} (hv : v_val F) (k0 x y : Nat) : v_oc F 65535 k0 x y ↔ ∃ i, k0 ≤ i ∧ i < 12 ∧ v_cell F i x y := by
  unfold v_oc
  constructor
  · rintro ⟨i, h0, hi, -, e⟩; exact ⟨i, h0, hi, e⟩
  · rintro ⟨i, h0, hi, e⟩
    refine ⟨i, h0, hi, sn_65535 _ ?_, e⟩
    rcases hv i hi with c | c
    · exact absurd c e.1
    · exact c.2.2.2.2.2.1
def sn_p (F : z_V) (k0 i y : Nat) : Nat := x_pop (x_sub (v_cm F i y) (sn_rm F k0 y))
def sn_n (F : z_V) (k0 i : Nat) : Nat := fb_sm (sn_p F k0 i) 12
theorem sn_le (F : z_V) (k0 i m : Nat) : fb_sm (sn_p F k0 i) m ≤ m * 16 := fb_sm_bound fun k _ => fb_ct_le _ _
theorem X_rows_eq {s : ax_S} {F : z_V} (ha : v_at s.2.1 5 F) (hv : v_val F) {k0 : Nat} (hk : k0 ≤ 12) : ∃ s', XCu_layOut_4 65535 (nI k0) s = some s' ∧ (∀ y, y < 12 → s'.2.1 56 y = nI (sn_rm F k0 y)) ∧ (∀ c, c ≠ 56 → s'.2.1 c = s.2.1 c) := by
  obtain ⟨s', h1, h2, h3⟩ := X_layOut_eq ha hv (P := 65535) (by omega) hk
  refine ⟨s', h1, fun y hy => ?_, h3⟩
  obtain ⟨m, m1, m2, m3⟩ := h2 y hy
  rw [m2]
  congr 1
  refine x_ext m1 (sn_rm_lt hv k0 y) fun i _ => ?_
  have := (m3 i).trans ((sn_oc hv k0 i y).trans (sn_rm_tb F k0 y i).symm)
  revert this
  cases m.testBit i <;> cases (sn_rm F k0 y).testBit i <;> simp
theorem X_seen_eq {s : ax_S} {F : z_V} (ha : v_at s.2.1 5 F) (hv : v_val F) {i : Nat} (hi : i < 12) : ∃ s', XCu_seen_4 (nI i) s = some (nI (sn_n F (i + 1) i), s') ∧ (∀ c, c ≠ 56 → s'.2.1 c = s.2.1 c) := by
  unfold XCu_seen_4
  obtain ⟨s1, h1, h2, h3⟩ := X_rows_eq ha hv (k0 := i + 1) (by omega)
  rw [z_1, h1]
  simp only []
  have hat : v_at s1.2.1 5 F := v_at_fr ha fun c _ _ => h3 c (by omega)
  obtain ⟨b, g1, g2⟩ := z_for (fun n k (a : Int32) => XCu_seen_4_l15 n (nI i) a (nI k) s1) 12 (fun k a => a = nI (fb_sm (sn_p F (i + 1) i) k)) (fun a => a = nI (sn_n F (i + 1) i)) (fun n a h => ⟨a, by
      show XCu_seen_4_l15 (n + 1) (nI i) a (nI 12) s1 = some a
      rw [XCu_seen_4_l15]
      exact if_pos (by decide), h⟩) (fun n k a hk h => Or.inr ⟨nI (fb_sm (sn_p F (i + 1) i) (k + 1)), by
      show XCu_seen_4_l15 (n + 1) (nI i) a (nI k) s1 = XCu_seen_4_l15 n (nI i) _ (nI (k + 1)) s1
      rw [XCu_seen_4_l15, X_row_eq hat hv hi hk]
      simp (disch := omega) only [q_12, z_le, z_nle, z_cl, z_lt0, z_1, if_false, or_self]
      rw [h2 k hk, x_not (v_cm_lt hv hi k), x_bc (x_sublt (v_cm_lt hv hi k) _), h, nI_add]
      rfl, rfl⟩) 70000 0 0 (by omega) rfl (by omega)
  have g1 : XCu_seen_4_l15 70000 (nI i) 0 0 s1 = some b := g1
  rw [g1, g2]
  exact ⟨s1, rfl, h3⟩
theorem v_ov11 (F : z_V) (i x y : Nat) (ht : ¬ F 0 i = -1) : v_ov F i x y 1 1 ↔ v_cell F i x y := by
  unfold v_ov v_cell
  constructor
  · rintro ⟨a, b, c, d⟩; exact ⟨ht, by omega, by omega, by omega, by omega⟩
  · rintro ⟨-, a, b, c, d⟩; exact ⟨by omega, by omega, by omega, by omega⟩
theorem M_cov_eq {s : ax_S} {F : z_V} (ha : v_aM s.2.1 F) (hv : v_val F) {j x y : Nat} (hj : j < 12) (hx : x ≤ 20) (hy : y ≤ 20) : (M_covers (nI j) (nI x) (nI y) s = some 1 ∧ v_cell F j x y) ∨ (M_covers (nI j) (nI x) (nI y) s = some 0 ∧ ¬ v_cell F j x y) := by
  unfold M_covers
  have e0 : s.2.1 64 j = F 0 j := by have := ha 0 j (by omega) hj; rwa [Nat.mul_zero, Nat.zero_add] at this
  rw [M_fig_eq s j hj, M_isIn_eq s j hj, v_aM_eq ha hj, e0]
  by_cases t : F 0 j = -1
  · exact Or.inr ⟨by simp [t], fun q => q.1 t⟩
  · have e := v_in_ov (x := x) (y := y) (w := 1) (h := 1) hv hj t (by omega) (by omega)
    rw [show nI 1 = 1 from rfl] at e
    simp only [t, if_false, z_10]
    by_cases c : v_cell F j x y
    · refine Or.inl ⟨?_, c⟩
      rw [if_neg (by rw [e]; exact not_not_intro ((v_ov11 F j x y t).mpr c))]
    · refine Or.inr ⟨?_, c⟩
      rw [if_pos (by rw [e]; exact fun q => c ((v_ov11 F j x y t).mp q))]
theorem M_s50 {s : ax_S} {F : z_V} (ha : v_aM s.2.1 F) (hv : v_val F) {k0 x y : Nat} (hk : k0 ≤ 12) (hx : x ≤ 20) (hy : y ≤ 20) (x1 x2 x3 : Int32) : M_seenOf_l50 70000 x1 x2 x3 (nI y) (nI x) 1 (nI k0) s = some (if (sn_rm F k0 y).testBit x = true then 0 else 1) := by
  obtain ⟨b, g1, g2⟩ := z_for (fun n k (a : Int32) => M_seenOf_l50 n x1 x2 x3 (nI y) (nI x) a (nI k) s) 12 (fun k a => k0 ≤ k ∧ ((a = 0 ∧ ∃ i, k0 ≤ i ∧ i < k ∧ v_cell F i x y) ∨ (a = 1 ∧ ¬ ∃ i, k0 ≤ i ∧ i < k ∧ v_cell F i x y))) (fun a => a = if (sn_rm F k0 y).testBit x = true then 0 else 1) (fun n a h => ⟨a, by
      show M_seenOf_l50 (n + 1) x1 x2 x3 (nI y) (nI x) a (nI 12) s = some a
      rw [M_seenOf_l50]
      exact if_pos (by decide), by
      rcases h.2 with ⟨e, q⟩ | ⟨e, q⟩
      · rw [if_pos ((sn_rm_tb F k0 y x).mpr q)]; exact e
      · rw [if_neg (fun r => q ((sn_rm_tb F k0 y x).mp r))]; exact e⟩) (fun n k a hk h => Or.inr (by
      show ∃ a', M_seenOf_l50 (n + 1) x1 x2 x3 (nI y) (nI x) a (nI k) s = M_seenOf_l50 n x1 x2 x3 (nI y) (nI x) a' (nI (k + 1)) s ∧ _
      rw [M_seenOf_l50]
      simp (disch := omega) only [q_12, z_le, z_nle, z_1, if_false]
      rcases M_cov_eq ha hv hk hx hy with ⟨e1, e2⟩ | ⟨e1, e2⟩
      · rw [e1]
        exact ⟨0, rfl, by omega, Or.inl ⟨rfl, k, h.1, by omega, e2⟩⟩
      · rw [e1]
        refine ⟨a, rfl, by omega, ?_⟩
        rcases h.2 with ⟨e, i, q1, q2, q3⟩ | ⟨e, q⟩
        · exact Or.inl ⟨e, i, q1, by omega, q3⟩
        · refine Or.inr ⟨e, fun ⟨i, q1, q2, q3⟩ => ?_⟩
          rcases Nat.lt_or_eq_of_le (Nat.lt_succ_iff.mp q2) with r | rfl
          · exact q ⟨i, q1, r, q3⟩
          · exact e2 q3)) 70000 k0 1 hk ⟨Nat.le_refl _, Or.inr ⟨rfl, fun ⟨i, q1, q2, _⟩ => by omega⟩⟩ (by omega)
  rw [g2] at g1
  exact g1
theorem sn_ext (p : Nat → Bool) {a n : Nat} (h : a ≤ n) (hz : ∀ k, a ≤ k → k < n → p k = false) : fb_ct p n = fb_ct p a := by
  obtain ⟨d, rfl⟩ : ∃ d, n = a + d := ⟨n - a, by omega⟩
  rw [fb_ct_split, fb_ct_zero.mpr fun k hk => hz (a + k) (by omega) (by omega), Nat.add_zero]
theorem sn_zero (p : Nat → Bool) {a : Nat} (hz : ∀ k, k < a → p k = false) : fb_ct p a = 0 := fb_ct_zero.mpr hz
theorem sm_ext (f : Nat → Nat) {a n : Nat} (h : a ≤ n) (hz : ∀ k, a ≤ k → k < n → f k = 0) : fb_sm f n = fb_sm f a := by
  obtain ⟨d, rfl⟩ : ∃ d, n = a + d := ⟨n - a, by omega⟩
  rw [fb_sm_split]
  have : ∀ d, (∀ k, k < d → f (a + k) = 0) → fb_sm (fun k => f (a + k)) d = 0 := by
    intro d
    induction d with
    | zero => intro _; rfl
    | succ d ih => intro hz; rw [fb_sm_succ, ih fun k hk => hz k (by omega), hz d (by omega)]
  rw [this d fun k hk => hz (a + k) (by omega) (by omega), Nat.add_zero]
theorem M_s34 {s : ax_S} {F : z_V} (ha : v_aM s.2.1 F) (hv : v_val F) {i k0 y base : Nat} (hi : i < 12) (ht : ¬ F 0 i = -1) (hk : k0 ≤ 12) (hy1 : v_n F 2 i ≤ y) (hy2 : y < v_n F 2 i + v_n F 4 i) : M_seenOf_l34 70000 (nI i) (nI k0) (nI base) (nI y) (F 1 i) s = some (nI (base + sn_p F k0 i y)) := by
  rcases hv i hi with c | ⟨-, g1, g2, g3, g4, b0, b1, b2, b3, b4⟩
  · exact absurd c ht
  have hvc := v_cm_lt hv hi y
  have hbit : ∀ x, (x_sub (v_cm F i y) (sn_rm F k0 y)).testBit x = (decide (v_n F 1 i ≤ x ∧ x < v_n F 1 i + v_n F 3 i) && !(sn_rm F k0 y).testBit x) := fun x => by
    rw [x_tsub hvc]
    have : (v_cm F i y).testBit x = decide (v_n F 1 i ≤ x ∧ x < v_n F 1 i + v_n F 3 i) := by
      have h := v_cm_tb (F := F) i x y
      unfold v_cell at h
      by_cases c : v_n F 1 i ≤ x ∧ x < v_n F 1 i + v_n F 3 i
      · rw [decide_eq_true c]; exact h.mpr ⟨ht, c.1, c.2, hy1, hy2⟩
      · rw [decide_eq_false c]
        cases e : (v_cm F i y).testBit x with
        | false => rfl
        | true => exact absurd ⟨(h.mp e).2.1, (h.mp e).2.2.1⟩ c
    rw [this]
  rw [g1]
  obtain ⟨b, h1, h2⟩ := z_for (fun n x (a : Nat) => M_seenOf_l34 n (nI i) (nI k0) (nI a) (nI y) (nI x) s) (v_n F 1 i + v_n F 3 i) (fun x a => v_n F 1 i ≤ x ∧ a = base + fb_ct (fun x => (x_sub (v_cm F i y) (sn_rm F k0 y)).testBit x) x) (fun v => v = nI (base + sn_p F k0 i y)) (fun n a h => ⟨nI a, by
      show M_seenOf_l34 (n + 1) (nI i) (nI k0) (nI a) (nI y) (nI (v_n F 1 i + v_n F 3 i)) s = some (nI a)
      rw [M_seenOf_l34, M_right_eq s i hi, show vM s.2.1 64 1 i = F 1 i from ha 1 i (by omega) hi, show vM s.2.1 64 3 i = F 3 i from ha 3 i (by omega) hi, g1, g3, nI_add]
      exact if_pos (Int32.le_refl _), by
      rw [h.2]
      unfold sn_p x_pop
      rw [sn_ext (fun x => (x_sub (v_cm F i y) (sn_rm F k0 y)).testBit x) (a := v_n F 1 i + v_n F 3 i) (n := 16) b3 fun k q1 q2 => by
        rw [hbit, decide_eq_false (by omega)]; rfl]⟩) (fun n x a hx h => Or.inr ⟨base + fb_ct (fun x => (x_sub (v_cm F i y) (sn_rm F k0 y)).testBit x) (x + 1), by
      show M_seenOf_l34 (n + 1) (nI i) (nI k0) (nI a) (nI y) (nI x) s = M_seenOf_l34 n (nI i) (nI k0) (nI _) (nI y) (nI (x + 1)) s
      rw [M_seenOf_l34, M_right_eq s i hi, show vM s.2.1 64 1 i = F 1 i from ha 1 i (by omega) hi, show vM s.2.1 64 3 i = F 3 i from ha 3 i (by omega) hi, g1, g3, nI_add]
      simp only []
      rw [if_neg (by rw [z_le (by omega) (by omega)]; omega), M_s50 ha hv hk (by omega) (by omega), z_1, h.2, fb_ct_succ]
      simp only [hbit x]
      rw [decide_eq_true (show v_n F 1 i ≤ x ∧ x < v_n F 1 i + v_n F 3 i from ⟨h.1, hx⟩)]
      by_cases c : (sn_rm F k0 y).testBit x = true
      · rw [if_pos c, c]; rfl
      · have c2 : (sn_rm F k0 y).testBit x = false := by simpa using c
        rw [if_neg c, c2]
        rw [if_neg (by decide), z_1]
        rfl, by omega, rfl⟩) 70000 (v_n F 1 i) base (by omega) ⟨Nat.le_refl _, by
      rw [sn_zero _ fun k hk => by rw [hbit, decide_eq_false (by omega)]; rfl]; rfl⟩ (by omega)
  rw [h2] at h1
  exact h1
theorem M_seen_eq {s : ax_S} {F : z_V} (ha : v_aM s.2.1 F) (hv : v_val F) {i k0 : Nat} (hi : i < 12) (ht : ¬ F 0 i = -1) (hk : k0 ≤ 12) : M_seenOf (nI i) (nI k0) s = some (nI (sn_n F k0 i)) := by
  rcases hv i hi with c | ⟨-, g1, g2, g3, g4, b0, b1, b2, b3, b4⟩
  · exact absurd c ht
  unfold M_seenOf
  have e2 : s.2.1 64 (24 + i) = nI (v_n F 2 i) := by rw [show s.2.1 64 (24 + i) = F 2 i from ha 2 i (by omega) hi, g2]
  have e1 : s.2.1 64 (12 + i) = F 1 i := ha 1 i (by omega) hi
  have hz : ∀ y, ¬ (v_n F 2 i ≤ y ∧ y < v_n F 2 i + v_n F 4 i) → sn_p F k0 i y = 0 := fun y hy => by
    unfold sn_p x_pop
    rw [fb_ct_zero]
    intro k _
    rw [x_tsub (v_cm_lt hv hi y)]
    have : (v_cm F i y).testBit k = false := by
      cases e : (v_cm F i y).testBit k with
      | false => rfl
      | true =>
        have := (v_cm_tb i k y).mp e
        exact absurd ⟨this.2.2.2.1, this.2.2.2.2⟩ hy
    rw [this]; rfl
  simp (disch := omega) only [q_24, nI_add, z_cl, z_lt0, z_nle, if_false, or_self]
  rw [e2]
  obtain ⟨b, h1, h2⟩ := z_for (fun n y (a : Nat) => M_seenOf_l13 n (nI i) (nI k0) (nI a) (nI y) s) (v_n F 2 i + v_n F 4 i) (fun y a => v_n F 2 i ≤ y ∧ a = fb_sm (sn_p F k0 i) y) (fun v => v = nI (sn_n F k0 i)) (fun n a h => ⟨nI a, by
      show M_seenOf_l13 (n + 1) (nI i) (nI k0) (nI a) (nI (v_n F 2 i + v_n F 4 i)) s = some (nI a)
      rw [M_seenOf_l13, M_below_eq s i hi, show vM s.2.1 64 2 i = F 2 i from ha 2 i (by omega) hi, show vM s.2.1 64 4 i = F 4 i from ha 4 i (by omega) hi, g2, g4, nI_add]
      exact if_pos (Int32.le_refl _), by
      rw [h.2]
      unfold sn_n
      rw [sm_ext (sn_p F k0 i) (a := v_n F 2 i + v_n F 4 i) (n := 12) b4 fun k q1 q2 => hz k (by omega)]⟩) (fun n y a hy h => Or.inr ⟨fb_sm (sn_p F k0 i) (y + 1), by
      show M_seenOf_l13 (n + 1) (nI i) (nI k0) (nI a) (nI y) s = M_seenOf_l13 n (nI i) (nI k0) (nI _) (nI (y + 1)) s
      rw [M_seenOf_l13, M_below_eq s i hi, show vM s.2.1 64 2 i = F 2 i from ha 2 i (by omega) hi, show vM s.2.1 64 4 i = F 4 i from ha 4 i (by omega) hi, g2, g4, nI_add]
      simp only []
      rw [if_neg (by rw [z_le (by omega) (by omega)]; omega)]
      simp (disch := omega) only [q_12, nI_add, z_cl, z_lt0, z_nle, if_false, or_self]
      rw [e1, M_s34 ha hv hi ht hk h.1 hy, z_1, h.2]
      rfl, by omega, rfl⟩) 70000 (v_n F 2 i) 0 (by omega) ⟨Nat.le_refl _, by
      rw [sm_ext (sn_p F k0 i) (a := 0) (n := v_n F 2 i) (Nat.zero_le _) fun k _ q2 => hz k (by omega)]; rfl⟩ (by omega)
  have h1 : M_seenOf_l13 70000 (nI i) (nI k0) 0 (nI (v_n F 2 i)) s = some b := h1
  rw [h1, h2]
/-! covered -/
def sn_U (F : z_V) (k : Nat) : Nat := fb_sm (fun y => x_pop (sn_rm F k y)) 12
theorem sn_part {F : z_V} (hv : v_val F) {k : Nat} (hk : k < 12) (y : Nat) : x_pop (sn_rm F k y) = sn_p F (k + 1) k y + x_pop (sn_rm F (k + 1) y) := by
  unfold sn_p x_pop
  rw [← fb_ct_or (p := fun x => (x_sub (v_cm F k y) (sn_rm F (k + 1) y)).testBit x) (q := fun x => (sn_rm F (k + 1) y).testBit x) fun x _ h => by
    have h1 := h.1
    have h2 := h.2
    rw [x_tsub (v_cm_lt hv hk y), h2] at h1
    simp at h1]
  refine fb_ct_cong fun x _ => ?_
  have e : (sn_rm F k y).testBit x = true ↔ ((x_sub (v_cm F k y) (sn_rm F (k + 1) y)).testBit x || (sn_rm F (k + 1) y).testBit x) = true := by
    rw [x_tsub (v_cm_lt hv hk y), sn_rm_tb, Bool.or_eq_true, Bool.and_eq_true, v_cm_tb]
    constructor
    · rintro ⟨i, h0, hi, e⟩
      by_cases c : (sn_rm F (k + 1) y).testBit x = true
      · exact Or.inr c
      · refine Or.inl ⟨?_, by simpa using c⟩
        by_cases ei : i = k
        · subst ei; exact e
        · exact absurd ((sn_rm_tb F (k + 1) y x).mpr ⟨i, by omega, hi, e⟩) c
    · rintro (⟨h1, -⟩ | h)
      · exact ⟨k, Nat.le_refl _, hk, h1⟩
      · obtain ⟨i, h0, hi, e⟩ := (sn_rm_tb F (k + 1) y x).mp h
        exact ⟨i, by omega, hi, e⟩
  revert e
  cases (sn_rm F k y).testBit x <;> cases ((x_sub (v_cm F k y) (sn_rm F (k + 1) y)).testBit x || (sn_rm F (k + 1) y).testBit x) <;> simp
theorem sn_US {F : z_V} (hv : v_val F) {k : Nat} (hk : k < 12) : sn_U F k = sn_n F (k + 1) k + sn_U F (k + 1) := by
  unfold sn_U sn_n
  rw [← fb_sm_add]
  exact fb_sm_cong fun y _ => sn_part hv hk y
theorem sn_U12 (F : z_V) : sn_U F 12 = 0 := by
  unfold sn_U
  rw [sm_ext (fun y => x_pop (sn_rm F 12 y)) (a := 0) (n := 12) (Nat.zero_le _) fun y _ _ => by
    unfold x_pop
    rw [fb_ct_zero]
    intro k _
    cases e : (sn_rm F 12 y).testBit k with
    | false => rfl
    | true =>
      obtain ⟨i, h0, hi, -⟩ := (sn_rm_tb F 12 y k).mp e
      omega]
  rfl
theorem sn_n0 {F : z_V} {k0 i : Nat} (ht : F 0 i = -1) : sn_n F k0 i = 0 := by
  unfold sn_n
  rw [sm_ext (sn_p F k0 i) (a := 0) (n := 12) (Nat.zero_le _) fun y _ _ => by
    unfold sn_p x_pop
    rw [fb_ct_zero]
    intro k _
    have : v_cm F i y = 0 := if_pos ht
    rw [this]
    unfold x_sub
    rw [Nat.zero_and]
    simp]
  rfl
theorem X_cov_eq {s : ax_S} {F : z_V} (ha : v_at s.2.1 5 F) (hv : v_val F) : ∃ s', XCu_covered_4 s = some (nI (sn_U F 0), s') ∧ (∀ c, c ≠ 56 → s'.2.1 c = s.2.1 c) := by
  unfold XCu_covered_4
  obtain ⟨s1, h1, h2, h3⟩ := X_rows_eq ha hv (k0 := 0) (by omega)
  have h1 : XCu_layOut_4 65535 0 s = some s1 := h1
  rw [h1]
  simp only []
  obtain ⟨b, g1, g2⟩ := z_for (fun n k (a : Int32) => XCu_covered_4_l12 n a (nI k) s1) 12 (fun k a => a = nI (fb_sm (fun y => x_pop (sn_rm F 0 y)) k)) (fun a => a = nI (sn_U F 0)) (fun n a h => ⟨a, by
      show XCu_covered_4_l12 (n + 1) a (nI 12) s1 = some a
      rw [XCu_covered_4_l12]
      exact if_pos (by decide), h⟩) (fun n k a hk h => Or.inr ⟨nI (fb_sm (fun y => x_pop (sn_rm F 0 y)) (k + 1)), by
      show XCu_covered_4_l12 (n + 1) a (nI k) s1 = XCu_covered_4_l12 n _ (nI (k + 1)) s1
      rw [XCu_covered_4_l12]
      simp (disch := omega) only [q_12, z_le, z_nle, z_cl, z_lt0, z_1, if_false, or_self]
      rw [h2 k hk, x_bc (sn_rm_lt hv 0 k), h, nI_add]
      rfl, rfl⟩) 70000 0 0 (by omega) rfl (by omega)
  have g1 : XCu_covered_4_l12 70000 0 0 s1 = some b := g1
  rw [g1, g2]
  exact ⟨s1, rfl, h3⟩
theorem M_covc_eq {s : ax_S} {F : z_V} (ha : v_aM s.2.1 F) (hv : v_val F) : M_coveredCells s = some (nI (sn_U F 0)) := by
  unfold M_coveredCells
  obtain ⟨b, g1, g2⟩ := z_for (fun n k (a : Nat) => M_coveredCells_l4 n (nI a) (nI k) s) 12 (fun k a => a + sn_U F k = sn_U F 0) (fun v => v = nI (sn_U F 0)) (fun n a h => ⟨nI a, by
      show M_coveredCells_l4 (n + 1) (nI a) (nI 12) s = some (nI a)
      rw [M_coveredCells_l4]
      exact if_pos (by decide), by rw [sn_U12, Nat.add_zero] at h; rw [h]⟩) (fun n k a hk h => Or.inr ⟨a + sn_n F (k + 1) k, by
      show M_coveredCells_l4 (n + 1) (nI a) (nI k) s = M_coveredCells_l4 n (nI (a + sn_n F (k + 1) k)) (nI (k + 1)) s
      have e0 : s.2.1 64 k = F 0 k := by have := ha 0 k (by omega) hk; rwa [Nat.mul_zero, Nat.zero_add] at this
      rw [M_coveredCells_l4, M_fig_eq s k hk, e0]
      simp (disch := omega) only [q_12, z_le, z_nle, z_1, if_false]
      by_cases t : F 0 k = -1
      · rw [sn_n0 t, Nat.add_zero]; simp [t]
      · simp only [t, if_false, z_10]
        rw [M_seen_eq ha hv hk t (by omega)]
        simp only []
        rw [nI_add], by rw [Nat.add_assoc, ← sn_US hv hk]; exact h⟩) 70000 0 0 (by omega) (by rw [Nat.zero_add]) (by omega)
  have g1 : M_coveredCells_l4 70000 0 0 s = some b := g1
  rw [g1, g2]
