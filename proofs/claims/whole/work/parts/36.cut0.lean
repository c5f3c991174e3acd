/-! the largest cut: what it is, and that there is one only -/
def ct_cl (oc : Nat → Nat → Prop) (x y w h : Nat) : Prop := ∀ x' y', x ≤ x' → x' < x + w → y ≤ y' → y' < y + h → ¬ oc x' y'
def ct_vr (x y w h : Nat) : Prop := 1 ≤ w ∧ 1 ≤ h ∧ x + w ≤ 16 ∧ y + h ≤ 12
def ct_ky (x y w h : Nat) : Nat := w * h * 3264 + (11 - y) * 272 + (15 - x) * 17 + w
def ct_ok (oc : Nat → Nat → Prop) (x y w h : Nat) : Prop := (x = 0 ∧ y = 0 ∧ w = 0 ∧ h = 0) ∨ (ct_vr x y w h ∧ ct_cl oc x y w h)
def ct_best (oc : Nat → Nat → Prop) (x y w h : Nat) : Prop := ct_ok oc x y w h ∧ ∀ x' y' w' h', ct_vr x' y' w' h' → ct_cl oc x' y' w' h' → ct_ky x' y' w' h' ≤ ct_ky x y w h
theorem ct_mul {w h : Nat} (hw : w ≤ 16) (hh : h ≤ 12) : w * h ≤ 192 := Nat.mul_le_mul hw hh
theorem ct_pos {w h : Nat} (hw : 1 ≤ w) (hh : 1 ≤ h) : 1 ≤ w * h := Nat.mul_le_mul hw hh
theorem ct_inj {x y w h x' y' w' h' : Nat} (h1 : ct_vr x y w h) (h2 : ct_vr x' y' w' h') (e : ct_ky x y w h = ct_ky x' y' w' h') : x = x' ∧ y = y' ∧ w = w' ∧ h = h' := by
  unfold ct_vr at h1 h2
  have a : w * h = w' * h' ∧ y = y' ∧ x = x' ∧ w = w' := by
    have d1 : ct_ky x y w h / 3264 = w * h := by unfold ct_ky; omega
    have d2 : ct_ky x' y' w' h' / 3264 = w' * h' := by unfold ct_ky; omega
    have f1 : ct_ky x y w h % 3264 / 272 = 11 - y := by unfold ct_ky; omega
    have f2 : ct_ky x' y' w' h' % 3264 / 272 = 11 - y' := by unfold ct_ky; omega
    have g1 : ct_ky x y w h % 272 / 17 = 15 - x := by unfold ct_ky; omega
    have g2 : ct_ky x' y' w' h' % 272 / 17 = 15 - x' := by unfold ct_ky; omega
    have i1 : ct_ky x y w h % 17 = w % 17 := by unfold ct_ky; omega
    have i2 : ct_ky x' y' w' h' % 17 = w' % 17 := by unfold ct_ky; omega
    rw [e] at d1 f1 g1 i1
    omega
  obtain ⟨a1, a2, a3, rfl⟩ := a
  exact ⟨a3, a2, rfl, Nat.eq_of_mul_eq_mul_left (by omega) a1⟩
theorem ct_none_lt {x y w h : Nat} (h1 : ct_vr x y w h) : ct_ky 0 0 0 0 < ct_ky x y w h := by
  have := ct_pos h1.1 h1.2.1
  unfold ct_ky
  omega
theorem ct_uniq {oc : Nat → Nat → Prop} {x y w h x' y' w' h' : Nat} (h1 : ct_best oc x y w h) (h2 : ct_best oc x' y' w' h') : x = x' ∧ y = y' ∧ w = w' ∧ h = h' := by
  rcases h1.1 with ⟨rfl, rfl, rfl, rfl⟩ | ⟨v1, c1⟩
  · rcases h2.1 with ⟨rfl, rfl, rfl, rfl⟩ | ⟨v2, c2⟩
    · exact ⟨rfl, rfl, rfl, rfl⟩
    · exact absurd (h1.2 _ _ _ _ v2 c2) (Nat.not_le.mpr (ct_none_lt v2))
  · rcases h2.1 with ⟨rfl, rfl, rfl, rfl⟩ | ⟨v2, c2⟩
    · exact absurd (h2.2 _ _ _ _ v1 c1) (Nat.not_le.mpr (ct_none_lt v1))
    · exact ct_inj v1 v2 (Nat.le_antisymm (h2.2 _ _ _ _ v1 c1) (h1.2 _ _ _ _ v2 c2))
theorem ct_bnd {oc : Nat → Nat → Prop} {x y w h : Nat} (h1 : ct_ok oc x y w h) : x ≤ 15 ∧ y ≤ 11 ∧ w ≤ 16 ∧ h ≤ 12 ∧ w * h ≤ 192 := by
  rcases h1 with ⟨rfl, rfl, rfl, rfl⟩ | ⟨v, -⟩
  · omega
  · unfold ct_vr at v
    exact ⟨by omega, by omega, by omega, by omega, ct_mul (by omega) (by omega)⟩
/-! figures' cells -/
def v_n (F : z_V) (k i : Nat) : Nat := (F k i).toNatClampNeg
def v_at (f : Nat → Nat → Int32) (b : Nat) (F : z_V) : Prop := ∀ k i, k < 5 → i < 12 → f (b + k) i = F k i
def v_aM (f : Nat → Nat → Int32) (F : z_V) : Prop := ∀ k i, k < 5 → i < 12 → f 64 (12 * k + i) = F k i
def v_val (F : z_V) : Prop := ∀ i, i < 12 → F 0 i = -1 ∨ (F 0 i = nI (v_n F 0 i) ∧ F 1 i = nI (v_n F 1 i) ∧ F 2 i = nI (v_n F 2 i) ∧ F 3 i = nI (v_n F 3 i) ∧ F 4 i = nI (v_n F 4 i) ∧ v_n F 0 i < 16 ∧ 1 ≤ v_n F 3 i ∧ 1 ≤ v_n F 4 i ∧ v_n F 1 i + v_n F 3 i ≤ 16 ∧ v_n F 2 i + v_n F 4 i ≤ 12)
theorem v_ok_val {F : z_V} {i : Nat} (h : v_ok F i) : F 0 i = nI (v_n F 0 i) ∧ F 1 i = nI (v_n F 1 i) ∧ F 2 i = nI (v_n F 2 i) ∧ F 3 i = nI (v_n F 3 i) ∧ F 4 i = nI (v_n F 4 i) ∧ v_n F 0 i < 16 ∧ 1 ≤ v_n F 3 i ∧ 1 ≤ v_n F 4 i ∧ v_n F 1 i + v_n F 3 i ≤ 16 ∧ v_n F 2 i + v_n F 4 i ≤ 12 := by
  obtain ⟨p, l, t, w, h, h1, h2, h3, h4, h5, h6, h7, h8, h9, h10⟩ := h
  unfold v_n
  rw [h6, h7, h8, h9, h10, z_cl (by omega), z_cl (by omega), z_cl (by omega), z_cl (by omega), z_cl (by omega)]
  exact ⟨rfl, rfl, rfl, rfl, rfl, h1, h2, h3, h4, h5⟩
theorem v_R_val {F G : z_V} (h : v_R F G) : v_val G := fun i hi => by
  rcases (h i hi).2 with h1 | ⟨h1, -⟩
  · exact Or.inl h1
  · exact Or.inr (v_ok_val h1)
def v_cell (F : z_V) (i x y : Nat) : Prop := ¬ F 0 i = -1 ∧ v_n F 1 i ≤ x ∧ x < v_n F 1 i + v_n F 3 i ∧ v_n F 2 i ≤ y ∧ y < v_n F 2 i + v_n F 4 i
/-- a cell of a figure (from the k0th on) of one of the persons P -/
def v_oc (F : z_V) (P k0 : Nat) (x y : Nat) : Prop := ∃ i, k0 ≤ i ∧ i < 12 ∧ P.testBit (v_n F 0 i) = true ∧ v_cell F i x y
theorem v_n_eq {F G : z_V} {k i : Nat} (h : F k i = G k i) : v_n F k i = v_n G k i := by unfold v_n; rw [h]
theorem v_R_told {F G : z_V} (h : v_R F G) {i : Nat} (hi : i < 12) (ht : ¬ G 0 i = -1) : ∀ k, k < 5 → F k i = G k i := by
  rcases (h i hi).2 with h1 | ⟨-, h1, h3, h4, h5⟩
  · exact absurd h1 ht
  · intro k hk
    have : k = 0 ∨ k = 1 ∨ k = 2 ∨ k = 3 ∨ k = 4 := by omega
    rcases this with rfl | rfl | rfl | rfl | rfl
    · exact (h i hi).1
    · exact h1
    · exact h3
    · exact h4
    · exact h5
theorem v_R_valX {F G : z_V} (h : v_R F G) : v_val F := fun i hi => by
  rcases v_R_val h i hi with h1 | h1
  · exact Or.inl (by rw [(h i hi).1]; exact h1)
  · by_cases ht : G 0 i = -1
    · exact Or.inl (by rw [(h i hi).1]; exact ht)
    · have e := v_R_told h hi ht
      rw [← v_n_eq (e 0 (by omega)), ← v_n_eq (e 1 (by omega)), ← v_n_eq (e 2 (by omega)), ← v_n_eq (e 3 (by omega)), ← v_n_eq (e 4 (by omega)), ← e 0 (by omega), ← e 1 (by omega), ← e 2 (by omega), ← e 3 (by omega), ← e 4 (by omega)] at h1
      exact Or.inr h1
theorem v_R_cell {F G : z_V} (h : v_R F G) {i : Nat} (hi : i < 12) (x y : Nat) : v_cell F i x y ↔ v_cell G i x y := by
  unfold v_cell
  rw [(h i hi).1]
  by_cases ht : G 0 i = -1
  · simp [ht]
  · have e := v_R_told h hi ht
    rw [v_n_eq (e 1 (by omega)), v_n_eq (e 2 (by omega)), v_n_eq (e 3 (by omega)), v_n_eq (e 4 (by omega))]
theorem v_R_oc {F G : z_V} (h : v_R F G) (P k0 x y : Nat) : v_oc F P k0 x y ↔ v_oc G P k0 x y := by
  unfold v_oc
  constructor
  · rintro ⟨i, h0, hi, h1, h2⟩
    exact ⟨i, h0, hi, by rw [← v_n_eq (h i hi).1]; exact h1, (v_R_cell h hi x y).mp h2⟩
  · rintro ⟨i, h0, hi, h1, h2⟩
    exact ⟨i, h0, hi, by rw [v_n_eq (h i hi).1]; exact h1, (v_R_cell h hi x y).mpr h2⟩
theorem v_at_vX (f : Nat → Nat → Int32) (b : Nat) : v_at f b (vX f b) := fun _ _ _ _ => rfl
theorem v_aM_vM (f : Nat → Nat → Int32) : v_aM f (vM f 64) := fun _ _ _ _ => rfl
/-- a figure's columns in a row -/
def v_cm (F : z_V) (i y : Nat) : Nat := if F 0 i = -1 then 0 else if v_n F 2 i ≤ y ∧ y < v_n F 2 i + v_n F 4 i then (2 ^ v_n F 3 i - 1) <<< v_n F 1 i else 0
theorem v_mask_tb (w l x : Nat) : ((2 ^ w - 1) <<< l).testBit x = decide (l ≤ x ∧ x < l + w) := by
  rw [Nat.testBit_shiftLeft, Nat.testBit_two_pow_sub_one]
  by_cases h : l ≤ x
  · simp [h]; omega
  · simp [h]
theorem v_cm_tb {F : z_V} (i x y : Nat) : (v_cm F i y).testBit x = true ↔ v_cell F i x y := by
  unfold v_cm v_cell
  by_cases h0 : F 0 i = -1
  · simp [h0]
  · rw [if_neg h0]
    by_cases h1 : v_n F 2 i ≤ y ∧ y < v_n F 2 i + v_n F 4 i
    · rw [if_pos h1, v_mask_tb]
      simp only [decide_eq_true_eq]
      exact ⟨fun h => ⟨h0, h.1, h.2, h1.1, h1.2⟩, fun h => ⟨h.2.1, h.2.2.1⟩⟩
    · rw [if_neg h1]
      simp only [Nat.zero_testBit, Bool.false_eq_true, false_iff]
      exact fun h => h1 ⟨h.2.2.2.1, h.2.2.2.2⟩
theorem v_mask_lt {w l : Nat} (h : l + w ≤ 16) : (2 ^ w - 1) <<< l < 65536 := by
  rw [Nat.shiftLeft_eq]
  have h1 : 2 ^ w * 2 ^ l ≤ 65536 := by
    rw [← Nat.pow_add]
    exact Nat.pow_le_pow_right (by omega) (show w + l ≤ 16 by omega)
  have h2 : 1 ≤ 2 ^ l := Nat.one_le_two_pow
  have h3 : (2 ^ w - 1) * 2 ^ l = 2 ^ w * 2 ^ l - 2 ^ l := by rw [Nat.sub_mul, Nat.one_mul]
  have h4 : 1 ≤ 2 ^ w := Nat.one_le_two_pow
  have h5 : 2 ^ l ≤ 2 ^ w * 2 ^ l := Nat.le_mul_of_pos_left _ h4
  omega
theorem v_cm_lt {F : z_V} (hv : v_val F) {i : Nat} (hi : i < 12) (y : Nat) : v_cm F i y < 65536 := by
  unfold v_cm
  split
  · omega
  · rename_i h0
    split
    · rcases hv i hi with h1 | h1
      · exact absurd h1 h0
      · exact v_mask_lt h1.2.2.2.2.2.2.2.2.1
    · omega
theorem x_shlm {w l : Nat} (hw : w ≤ 16) (h : l + w ≤ 16) : ((1 : Int32) <<< (nI w &&& 31) - 1) <<< (nI l &&& 31) = nI ((2 ^ w - 1) <<< l) := by
  rw [x_shl w (by omega)]
  have h1 : 1 ≤ 2 ^ w := Nat.one_le_two_pow
  rw [show (1 : Int32) = nI 1 from rfl, z_sub h1, pk_shlN _ l (s_l l (by omega)), Nat.shiftLeft_eq]
  rw [← Nat.shiftLeft_eq]
  have := v_mask_lt h
  omega
theorem X_row_eq {s : ax_S} {F : z_V} (ha : v_at s.2.1 5 F) (hv : v_val F) {i y : Nat} (hi : i < 12) (hy : y < 12) : XFi_cellsInRow_4 (nI i) (nI y) s = some (nI (v_cm F i y)) := by
  unfold XFi_cellsInRow_4 v_cm
  rw [X_told_eq s i hi]
  simp (disch := omega) only [z_cl, z_lt0, z_nle, if_false, or_self]
  have e0 : s.2.1 5 i = F 0 i := ha 0 i (by omega) hi
  have e1 : s.2.1 6 i = F 1 i := ha 1 i (by omega) hi
  have e2 : s.2.1 7 i = F 2 i := ha 2 i (by omega) hi
  have e3 : s.2.1 8 i = F 3 i := ha 3 i (by omega) hi
  have e4 : s.2.1 9 i = F 4 i := ha 4 i (by omega) hi
  rw [e0, e1, e2, e3, e4]
  rcases hv i hi with h1 | ⟨g0, g1, g2, g3, g4, b0, b1, b2, b3, b4⟩
  · simp [h1]
    rfl
  · by_cases h0 : F 0 i = -1
    · simp [h0]
      rfl
    · simp only [h0, if_false, z_10]
      rw [g1, g2, g3, g4, nI_add, x_shlm (by omega) b3]
      simp (disch := omega) only [z_lt]
      by_cases c1 : y < v_n F 2 i
      · rw [if_pos c1, if_neg (by omega)]; rfl
      · rw [if_neg c1]
        by_cases c2 : y < v_n F 2 i + v_n F 4 i
        · rw [if_pos c2, if_pos (by omega)]
        · rw [if_neg c2, if_neg (by omega)]; rfl
