/-! the law: every call answers alike -/
theorem c_g {i k xL : Nat} (h : i + k < xL) (hL : xL ≤ 3072) : ¬ (nI (i + k) < 0 ∨ xL ≤ (nI (i + k)).toNatClampNeg) := by
  rw [z_cl (by omega)]
  rintro (h1 | h1)
  · exact nI_pos (by omega) h1
  · omega
theorem c_gk {i k xL : Nat} (h : i + k < xL) (hL : xL ≤ 3072) : ¬ (nI i + nI k < 0 ∨ xL ≤ (nI i + nI k).toNatClampNeg) := by
  rw [nI_add]
  exact c_g h hL
theorem c_L_law_j168 {xL : Nat} {xs : Nat → Int32} (hL : xL ≤ 3072) (i : Nat) (hi : i + 6 ≤ xL) (s : ax_S) (h : y_inv s.2.1) : ∃ t, L_law_j168 xL xs (nI i) s = some (.inl t) ∧ y_inv t.2.1 := by
  have g1 : ¬ ((nI i) + (1 : Int32) < 0 ∨ xL ≤ ((nI i) + (1 : Int32)).toNatClampNeg) := c_gk (i := i) (k := 1) (by omega) hL
  have g2 : ¬ ((nI i) + (2 : Int32) < 0 ∨ xL ≤ ((nI i) + (2 : Int32)).toNatClampNeg) := c_gk (i := i) (k := 2) (by omega) hL
  unfold L_law_j168
  obtain ⟨a, s1, s2, e1, e2, e3⟩ := y_pain (xs (((nI i) + (1 : Int32))).toNatClampNeg) (xs (((nI i) + (2 : Int32))).toNatClampNeg) s h
  simp only [if_neg g1, if_neg g2, e1, e2, if_true]
  exact ⟨s2, rfl, e3⟩
theorem c_L_law_j201 {xL : Nat} {xs : Nat → Int32} (hL : xL ≤ 3072) (i : Nat) (hi : i + 6 ≤ xL) (s : ax_S) (h : y_inv s.2.1) : ∃ t, L_law_j201 xL xs (nI i) s = some (.inl t) ∧ y_inv t.2.1 := by
  have g1 : ¬ ((nI i) + (1 : Int32) < 0 ∨ xL ≤ ((nI i) + (1 : Int32)).toNatClampNeg) := c_gk (i := i) (k := 1) (by omega) hL
  unfold L_law_j201
  obtain ⟨e1, e2⟩ := y_bound (xs (((nI i) + (1 : Int32))).toNatClampNeg) s h
  rw [if_neg g1, if_neg g1, if_pos e1]
  exact ⟨_, rfl, e2⟩
theorem c_L_law_j224 {xL : Nat} {xs : Nat → Int32} (hL : xL ≤ 3072) (i : Nat) (hi : i + 6 ≤ xL) (s : ax_S) (h : y_inv s.2.1) : ∃ t, L_law_j224 xL xs (nI i) s = some (.inl t) ∧ y_inv t.2.1 := by
  have g1 : ¬ ((nI i) + (1 : Int32) < 0 ∨ xL ≤ ((nI i) + (1 : Int32)).toNatClampNeg) := c_gk (i := i) (k := 1) (by omega) hL
  have g2 : ¬ ((nI i) + (2 : Int32) < 0 ∨ xL ≤ ((nI i) + (2 : Int32)).toNatClampNeg) := c_gk (i := i) (k := 2) (by omega) hL
  have g3 : ¬ ((nI i) + (3 : Int32) < 0 ∨ xL ≤ ((nI i) + (3 : Int32)).toNatClampNeg) := c_gk (i := i) (k := 3) (by omega) hL
  have g4 : ¬ ((nI i) + (4 : Int32) < 0 ∨ xL ≤ ((nI i) + (4 : Int32)).toNatClampNeg) := c_gk (i := i) (k := 4) (by omega) hL
  have g5 : ¬ ((nI i) + (5 : Int32) < 0 ∨ xL ≤ ((nI i) + (5 : Int32)).toNatClampNeg) := c_gk (i := i) (k := 5) (by omega) hL
  unfold L_law_j224
  obtain ⟨a, s1, s2, e1, e2, e3⟩ := y_feed (xs (((nI i) + (1 : Int32))).toNatClampNeg) (xs (((nI i) + (2 : Int32))).toNatClampNeg) (xs (((nI i) + (3 : Int32))).toNatClampNeg) (xs (((nI i) + (4 : Int32))).toNatClampNeg) (xs (((nI i) + (5 : Int32))).toNatClampNeg) s h
  simp only [if_neg g1, if_neg g2, if_neg g3, if_neg g4, if_neg g5, e1, e2, if_true]
  exact ⟨s2, rfl, e3⟩
theorem c_L_law_j287 {xL : Nat} {xs : Nat → Int32} (hL : xL ≤ 3072) (i : Nat) (hi : i + 6 ≤ xL) (s : ax_S) (h : y_inv s.2.1) : ∃ t, L_law_j287 xL xs (nI i) s = some (.inl t) ∧ y_inv t.2.1 := by
  have g1 : ¬ ((nI i) + (1 : Int32) < 0 ∨ xL ≤ ((nI i) + (1 : Int32)).toNatClampNeg) := c_gk (i := i) (k := 1) (by omega) hL
  unfold L_law_j287
  obtain ⟨a, s1, s2, e1, e2, e3⟩ := y_lawc (xs (((nI i) + (1 : Int32))).toNatClampNeg) s h
  simp only [if_neg g1, e1, e2, if_true]
  exact ⟨s2, rfl, e3⟩
theorem c_L_law_j310 {xL : Nat} {xs : Nat → Int32} (hL : xL ≤ 3072) (i : Nat) (hi : i + 6 ≤ xL) (s : ax_S) (h : y_inv s.2.1) : ∃ t, L_law_j310 xL xs (nI i) s = some (.inl t) ∧ y_inv t.2.1 := by
  have g1 : ¬ ((nI i) + (1 : Int32) < 0 ∨ xL ≤ ((nI i) + (1 : Int32)).toNatClampNeg) := c_gk (i := i) (k := 1) (by omega) hL
  unfold L_law_j310
  obtain ⟨a, s1, s2, e1, e2, e3⟩ := y_print (xs (((nI i) + (1 : Int32))).toNatClampNeg) s h
  simp only [if_neg g1, e1, e2, if_true]
  exact ⟨s2, rfl, e3⟩
theorem c_L_law_j333 {xL : Nat} {xs : Nat → Int32} (hL : xL ≤ 3072) (i : Nat) (hi : i + 6 ≤ xL) (s : ax_S) (h : y_inv s.2.1) : ∃ t, L_law_j333 xL xs (nI i) s = some (.inl t) ∧ y_inv t.2.1 := by
  have g1 : ¬ ((nI i) + (1 : Int32) < 0 ∨ xL ≤ ((nI i) + (1 : Int32)).toNatClampNeg) := c_gk (i := i) (k := 1) (by omega) hL
  unfold L_law_j333
  obtain ⟨a, s1, s2, e1, e2, e3⟩ := y_edits (xs (((nI i) + (1 : Int32))).toNatClampNeg) s h
  simp only [if_neg g1, e1, e2, if_true]
  exact ⟨s2, rfl, e3⟩
theorem c_L_law_j356 {xL : Nat} {xs : Nat → Int32} (hL : xL ≤ 3072) (i : Nat) (hi : i + 6 ≤ xL) (s : ax_S) (h : y_inv s.2.1) : ∃ t, L_law_j356 xL xs (nI i) s = some (.inl t) ∧ y_inv t.2.1 := by
  unfold L_law_j356
  obtain ⟨a, s1, s2, e1, e2, e3⟩ := y_mirror  s h
  simp only [e1, e2, if_true]
  exact ⟨s2, rfl, e3⟩
theorem c_L_law_j369 {xL : Nat} {xs : Nat → Int32} (hL : xL ≤ 3072) (i : Nat) (hi : i + 6 ≤ xL) (s : ax_S) (h : y_inv s.2.1) : ∃ t, L_law_j369 xL xs (nI i) s = some (.inl t) ∧ y_inv t.2.1 := by
  have g1 : ¬ ((nI i) + (1 : Int32) < 0 ∨ xL ≤ ((nI i) + (1 : Int32)).toNatClampNeg) := c_gk (i := i) (k := 1) (by omega) hL
  unfold L_law_j369
  obtain ⟨a, s1, s2, e1, e2, e3⟩ := y_days (xs (((nI i) + (1 : Int32))).toNatClampNeg) s h
  simp only [if_neg g1, e1, e2, if_true]
  exact ⟨s2, rfl, e3⟩
theorem c_L_law_j392 {xL : Nat} {xs : Nat → Int32} (hL : xL ≤ 3072) (i : Nat) (hi : i + 6 ≤ xL) (s : ax_S) (h : y_inv s.2.1) : ∃ t, L_law_j392 xL xs (nI i) s = some (.inl t) ∧ y_inv t.2.1 := by
  have g1 : ¬ ((nI i) + (1 : Int32) < 0 ∨ xL ≤ ((nI i) + (1 : Int32)).toNatClampNeg) := c_gk (i := i) (k := 1) (by omega) hL
  have g2 : ¬ ((nI i) + (2 : Int32) < 0 ∨ xL ≤ ((nI i) + (2 : Int32)).toNatClampNeg) := c_gk (i := i) (k := 2) (by omega) hL
  unfold L_law_j392
  obtain ⟨a, s1, s2, e1, e2, e3⟩ := y_tried (xs (((nI i) + (1 : Int32))).toNatClampNeg) (xs (((nI i) + (2 : Int32))).toNatClampNeg) s h
  simp only [if_neg g1, if_neg g2, e1, e2, if_true]
  exact ⟨s2, rfl, e3⟩
theorem c_L_law_j425 {xL : Nat} {xs : Nat → Int32} (hL : xL ≤ 3072) (i : Nat) (hi : i + 6 ≤ xL) (s : ax_S) (h : y_inv s.2.1) : ∃ t, L_law_j425 xL xs (nI i) s = some (.inl t) ∧ y_inv t.2.1 := by
  have g1 : ¬ ((nI i) + (1 : Int32) < 0 ∨ xL ≤ ((nI i) + (1 : Int32)).toNatClampNeg) := c_gk (i := i) (k := 1) (by omega) hL
  have g2 : ¬ ((nI i) + (2 : Int32) < 0 ∨ xL ≤ ((nI i) + (2 : Int32)).toNatClampNeg) := c_gk (i := i) (k := 2) (by omega) hL
  unfold L_law_j425
  obtain ⟨a, s1, e1, e2, e3⟩ := y_figureIs (xs (((nI i) + (1 : Int32))).toNatClampNeg) (xs (((nI i) + (2 : Int32))).toNatClampNeg) s h
  simp only [if_neg g1, if_neg g2, e1, e2, if_true]
  exact ⟨s1, rfl, e3⟩
theorem c_L_law_j458 {xL : Nat} {xs : Nat → Int32} (hL : xL ≤ 3072) (i : Nat) (hi : i + 6 ≤ xL) (s : ax_S) (h : y_inv s.2.1) : ∃ t, L_law_j458 xL xs (nI i) s = some (.inl t) ∧ y_inv t.2.1 := by
  have g1 : ¬ ((nI i) + (1 : Int32) < 0 ∨ xL ≤ ((nI i) + (1 : Int32)).toNatClampNeg) := c_gk (i := i) (k := 1) (by omega) hL
  have g2 : ¬ ((nI i) + (2 : Int32) < 0 ∨ xL ≤ ((nI i) + (2 : Int32)).toNatClampNeg) := c_gk (i := i) (k := 2) (by omega) hL
  unfold L_law_j458
  obtain ⟨a, s1, e1, e2, e3⟩ := y_personIs (xs (((nI i) + (1 : Int32))).toNatClampNeg) (xs (((nI i) + (2 : Int32))).toNatClampNeg) s h
  simp only [if_neg g1, if_neg g2, e1, e2, if_true]
  exact ⟨s1, rfl, e3⟩
theorem c_L_law_j491 {xL : Nat} {xs : Nat → Int32} (hL : xL ≤ 3072) (i : Nat) (hi : i + 6 ≤ xL) (s : ax_S) (h : y_inv s.2.1) : ∃ t, L_law_j491 xL xs (nI i) s = some (.inl t) ∧ y_inv t.2.1 := by
  have g1 : ¬ ((nI i) + (1 : Int32) < 0 ∨ xL ≤ ((nI i) + (1 : Int32)).toNatClampNeg) := c_gk (i := i) (k := 1) (by omega) hL
  have g2 : ¬ ((nI i) + (2 : Int32) < 0 ∨ xL ≤ ((nI i) + (2 : Int32)).toNatClampNeg) := c_gk (i := i) (k := 2) (by omega) hL
  unfold L_law_j491
  obtain ⟨a, s1, s2, e1, e2, e3⟩ := y_without (xs (((nI i) + (1 : Int32))).toNatClampNeg) (xs (((nI i) + (2 : Int32))).toNatClampNeg) s h
  simp only [if_neg g1, if_neg g2, e1, e2, if_true]
  exact ⟨s2, rfl, e3⟩
theorem c_L_law_j524 {xL : Nat} {xs : Nat → Int32} (hL : xL ≤ 3072) (i : Nat) (hi : i + 6 ≤ xL) (s : ax_S) (h : y_inv s.2.1) : ∃ t, L_law_j524 xL xs (nI i) s = some (.inl t) ∧ y_inv t.2.1 := by
  have g1 : ¬ ((nI i) + (1 : Int32) < 0 ∨ xL ≤ ((nI i) + (1 : Int32)).toNatClampNeg) := c_gk (i := i) (k := 1) (by omega) hL
  unfold L_law_j524
  obtain ⟨a, s1, s2, e1, e2, e3⟩ := y_today (xs (((nI i) + (1 : Int32))).toNatClampNeg) s h
  simp only [if_neg g1, e1, e2, if_true]
  exact ⟨s2, rfl, e3⟩
theorem c_L_law_j547 {xL : Nat} {xs : Nat → Int32} (hL : xL ≤ 3072) (i : Nat) (hi : i + 6 ≤ xL) (s : ax_S) (h : y_inv s.2.1) : ∃ t, L_law_j547 xL xs (nI i) s = some (.inl t) ∧ y_inv t.2.1 := by
  have g1 : ¬ ((nI i) + (1 : Int32) < 0 ∨ xL ≤ ((nI i) + (1 : Int32)).toNatClampNeg) := c_gk (i := i) (k := 1) (by omega) hL
  have g2 : ¬ ((nI i) + (2 : Int32) < 0 ∨ xL ≤ ((nI i) + (2 : Int32)).toNatClampNeg) := c_gk (i := i) (k := 2) (by omega) hL
  have g3 : ¬ ((nI i) + (3 : Int32) < 0 ∨ xL ≤ ((nI i) + (3 : Int32)).toNatClampNeg) := c_gk (i := i) (k := 3) (by omega) hL
  have g4 : ¬ ((nI i) + (4 : Int32) < 0 ∨ xL ≤ ((nI i) + (4 : Int32)).toNatClampNeg) := c_gk (i := i) (k := 4) (by omega) hL
  have g5 : ¬ ((nI i) + (5 : Int32) < 0 ∨ xL ≤ ((nI i) + (5 : Int32)).toNatClampNeg) := c_gk (i := i) (k := 5) (by omega) hL
  unfold L_law_j547
  obtain ⟨a, e1, e2⟩ := y_shows (xs (((nI i) + (1 : Int32))).toNatClampNeg) (xs (((nI i) + (2 : Int32))).toNatClampNeg) (xs (((nI i) + (3 : Int32))).toNatClampNeg) (xs (((nI i) + (4 : Int32))).toNatClampNeg) (xs (((nI i) + (5 : Int32))).toNatClampNeg) s h
  simp only [if_neg g1, if_neg g2, if_neg g3, if_neg g4, if_neg g5, e1, e2, if_true]
  exact ⟨s, rfl, h⟩
theorem c_L_law_j610 {xL : Nat} {xs : Nat → Int32} (hL : xL ≤ 3072) (i : Nat) (hi : i + 6 ≤ xL) (s : ax_S) (h : y_inv s.2.1) : ∃ t, L_law_j610 xL xs (nI i) s = some (.inl t) ∧ y_inv t.2.1 := by
  have g1 : ¬ ((nI i) + (1 : Int32) < 0 ∨ xL ≤ ((nI i) + (1 : Int32)).toNatClampNeg) := c_gk (i := i) (k := 1) (by omega) hL
  unfold L_law_j610
  obtain ⟨a, s1, s2, e1, e2, e3⟩ := y_sky (xs (((nI i) + (1 : Int32))).toNatClampNeg) s h
  simp only [if_neg g1, e1, e2, if_true]
  exact ⟨s2, rfl, e3⟩
theorem c_L_law_j633 {xL : Nat} {xs : Nat → Int32} (hL : xL ≤ 3072) (i : Nat) (hi : i + 6 ≤ xL) (s : ax_S) (h : y_inv s.2.1) : ∃ t, L_law_j633 xL xs (nI i) s = some (.inl t) ∧ y_inv t.2.1 := by
  have g1 : ¬ ((nI i) + (1 : Int32) < 0 ∨ xL ≤ ((nI i) + (1 : Int32)).toNatClampNeg) := c_gk (i := i) (k := 1) (by omega) hL
  have g2 : ¬ ((nI i) + (2 : Int32) < 0 ∨ xL ≤ ((nI i) + (2 : Int32)).toNatClampNeg) := c_gk (i := i) (k := 2) (by omega) hL
  unfold L_law_j633
  obtain ⟨a, s1, s2, e1, e2, e3⟩ := y_smallest (xs (((nI i) + (1 : Int32))).toNatClampNeg) (xs (((nI i) + (2 : Int32))).toNatClampNeg) s h
  simp only [if_neg g1, if_neg g2, e1, e2, if_true]
  exact ⟨s2, rfl, e3⟩
theorem c_L_law_j666 {xL : Nat} {xs : Nat → Int32} (hL : xL ≤ 3072) (i : Nat) (hi : i + 6 ≤ xL) (s : ax_S) (h : y_inv s.2.1) : ∃ t, L_law_j666 xL xs (nI i) s = some (.inl t) ∧ y_inv t.2.1 := by
  have g1 : ¬ ((nI i) + (1 : Int32) < 0 ∨ xL ≤ ((nI i) + (1 : Int32)).toNatClampNeg) := c_gk (i := i) (k := 1) (by omega) hL
  have g2 : ¬ ((nI i) + (2 : Int32) < 0 ∨ xL ≤ ((nI i) + (2 : Int32)).toNatClampNeg) := c_gk (i := i) (k := 2) (by omega) hL
  unfold L_law_j666
  obtain ⟨a, s1, s2, e1, e2, e3⟩ := y_smallestOf (xs (((nI i) + (1 : Int32))).toNatClampNeg) (xs (((nI i) + (2 : Int32))).toNatClampNeg) s h
  simp only [if_neg g1, if_neg g2, e1, e2, if_true]
  exact ⟨s2, rfl, e3⟩
theorem c_L_law_j699 {xL : Nat} {xs : Nat → Int32} (hL : xL ≤ 3072) (i : Nat) (hi : i + 6 ≤ xL) (s : ax_S) (h : y_inv s.2.1) : ∃ t, L_law_j699 xL xs (nI i) s = some (.inl t) ∧ y_inv t.2.1 := by
  have g1 : ¬ ((nI i) + (1 : Int32) < 0 ∨ xL ≤ ((nI i) + (1 : Int32)).toNatClampNeg) := c_gk (i := i) (k := 1) (by omega) hL
  unfold L_law_j699
  obtain ⟨a, s1, e1, e2, e3⟩ := y_printIs (xs (((nI i) + (1 : Int32))).toNatClampNeg) s h
  simp only [if_neg g1, e1, e2, if_true]
  exact ⟨s1, rfl, e3⟩
theorem c_L_law_j722 {xL : Nat} {xs : Nat → Int32} (hL : xL ≤ 3072) (i : Nat) (hi : i + 6 ≤ xL) (s : ax_S) (h : y_inv s.2.1) : ∃ t, L_law_j722 xL xs (nI i) s = some (.inl t) ∧ y_inv t.2.1 := by
  have g1 : ¬ ((nI i) + (1 : Int32) < 0 ∨ xL ≤ ((nI i) + (1 : Int32)).toNatClampNeg) := c_gk (i := i) (k := 1) (by omega) hL
  unfold L_law_j722
  obtain ⟨a, s1, e1, e2, e3⟩ := y_family (xs (((nI i) + (1 : Int32))).toNatClampNeg) s h
  simp only [if_neg g1, e1, e2, if_true]
  exact ⟨s1, rfl, e3⟩
theorem c_L_law_j745 {xL : Nat} {xs : Nat → Int32} (hL : xL ≤ 3072) (i : Nat) (hi : i + 6 ≤ xL) (s : ax_S) (h : y_inv s.2.1) : ∃ t, L_law_j745 xL xs (nI i) s = some (.inl t) ∧ y_inv t.2.1 := by
  have g1 : ¬ ((nI i) + (1 : Int32) < 0 ∨ xL ≤ ((nI i) + (1 : Int32)).toNatClampNeg) := c_gk (i := i) (k := 1) (by omega) hL
  have g2 : ¬ ((nI i) + (2 : Int32) < 0 ∨ xL ≤ ((nI i) + (2 : Int32)).toNatClampNeg) := c_gk (i := i) (k := 2) (by omega) hL
  unfold L_law_j745
  obtain ⟨a, e1, e2⟩ := y_album (xs (((nI i) + (1 : Int32))).toNatClampNeg) (xs (((nI i) + (2 : Int32))).toNatClampNeg) s h
  simp only [if_neg g1, if_neg g2, e1, e2, if_true]
  exact ⟨s, rfl, h⟩
theorem c_L_law_j778 {xL : Nat} {xs : Nat → Int32} (hL : xL ≤ 3072) (i : Nat) (hi : i + 6 ≤ xL) (s : ax_S) (h : y_inv s.2.1) : ∃ t, L_law_j778 xL xs (nI i) s = some (.inl t) ∧ y_inv t.2.1 := by
  have g1 : ¬ ((nI i) + (1 : Int32) < 0 ∨ xL ≤ ((nI i) + (1 : Int32)).toNatClampNeg) := c_gk (i := i) (k := 1) (by omega) hL
  have g2 : ¬ ((nI i) + (2 : Int32) < 0 ∨ xL ≤ ((nI i) + (2 : Int32)).toNatClampNeg) := c_gk (i := i) (k := 2) (by omega) hL
  unfold L_law_j778
  obtain ⟨a, s1, s2, e1, e2, e3⟩ := y_pages (xs (((nI i) + (1 : Int32))).toNatClampNeg) (xs (((nI i) + (2 : Int32))).toNatClampNeg) s h
  simp only [if_neg g1, if_neg g2, e1, e2, if_true]
  exact ⟨s2, rfl, e3⟩
theorem c_L_law_j811 {xL : Nat} {xs : Nat → Int32} (hL : xL ≤ 3072) (i : Nat) (hi : i + 6 ≤ xL) (s : ax_S) (h : y_inv s.2.1) : ∃ t, L_law_j811 xL xs (nI i) s = some (.inl t) ∧ y_inv t.2.1 := by
  have g1 : ¬ ((nI i) + (1 : Int32) < 0 ∨ xL ≤ ((nI i) + (1 : Int32)).toNatClampNeg) := c_gk (i := i) (k := 1) (by omega) hL
  have g2 : ¬ ((nI i) + (2 : Int32) < 0 ∨ xL ≤ ((nI i) + (2 : Int32)).toNatClampNeg) := c_gk (i := i) (k := 2) (by omega) hL
  have g3 : ¬ ((nI i) + (3 : Int32) < 0 ∨ xL ≤ ((nI i) + (3 : Int32)).toNatClampNeg) := c_gk (i := i) (k := 3) (by omega) hL
  unfold L_law_j811
  obtain ⟨a, s1, s2, e1, e2, e3⟩ := y_offcuts (xs (((nI i) + (1 : Int32))).toNatClampNeg) (xs (((nI i) + (2 : Int32))).toNatClampNeg) (xs (((nI i) + (3 : Int32))).toNatClampNeg) s h
  simp only [if_neg g1, if_neg g2, if_neg g3, e1, e2, if_true]
  exact ⟨s2, rfl, e3⟩
theorem c_L_law_j854 {xL : Nat} {xs : Nat → Int32} (hL : xL ≤ 3072) (i : Nat) (hi : i + 6 ≤ xL) (s : ax_S) (h : y_inv s.2.1) : ∃ t, L_law_j854 xL xs (nI i) s = some (.inl t) ∧ y_inv t.2.1 := by
  have g1 : ¬ ((nI i) + (1 : Int32) < 0 ∨ xL ≤ ((nI i) + (1 : Int32)).toNatClampNeg) := c_gk (i := i) (k := 1) (by omega) hL
  unfold L_law_j854
  obtain ⟨a, e1, e2⟩ := y_fold (xs (((nI i) + (1 : Int32))).toNatClampNeg) s
  simp only [if_neg g1, e1, e2, if_true]
  exact ⟨s, rfl, h⟩
theorem c_L_law_j877 {xL : Nat} {xs : Nat → Int32} (hL : xL ≤ 3072) (i : Nat) (hi : i + 6 ≤ xL) (s : ax_S) (h : y_inv s.2.1) : ∃ t, L_law_j877 xL xs (nI i) s = some (.inl t) ∧ y_inv t.2.1 := by
  have g1 : ¬ ((nI i) + (1 : Int32) < 0 ∨ xL ≤ ((nI i) + (1 : Int32)).toNatClampNeg) := c_gk (i := i) (k := 1) (by omega) hL
  have g2 : ¬ ((nI i) + (2 : Int32) < 0 ∨ xL ≤ ((nI i) + (2 : Int32)).toNatClampNeg) := c_gk (i := i) (k := 2) (by omega) hL
  have g3 : ¬ ((nI i) + (3 : Int32) < 0 ∨ xL ≤ ((nI i) + (3 : Int32)).toNatClampNeg) := c_gk (i := i) (k := 3) (by omega) hL
  have g4 : ¬ ((nI i) + (4 : Int32) < 0 ∨ xL ≤ ((nI i) + (4 : Int32)).toNatClampNeg) := c_gk (i := i) (k := 4) (by omega) hL
  unfold L_law_j877
  obtain ⟨a, s1, s2, e1, e2, e3⟩ := y_told (xs (((nI i) + (1 : Int32))).toNatClampNeg) (xs (((nI i) + (2 : Int32))).toNatClampNeg) (xs (((nI i) + (3 : Int32))).toNatClampNeg) (xs (((nI i) + (4 : Int32))).toNatClampNeg) s h
  simp only [if_neg g1, if_neg g2, if_neg g3, if_neg g4, e1, e2, if_true]
  exact ⟨s2, rfl, e3⟩
theorem c_L_law_j930 {xL : Nat} {xs : Nat → Int32} (hL : xL ≤ 3072) (i : Nat) (hi : i + 6 ≤ xL) (s : ax_S) (h : y_inv s.2.1) : ∃ t, L_law_j930 xL xs (nI i) s = some (.inl t) ∧ y_inv t.2.1 := by
  have g1 : ¬ ((nI i) + (1 : Int32) < 0 ∨ xL ≤ ((nI i) + (1 : Int32)).toNatClampNeg) := c_gk (i := i) (k := 1) (by omega) hL
  have g2 : ¬ ((nI i) + (2 : Int32) < 0 ∨ xL ≤ ((nI i) + (2 : Int32)).toNatClampNeg) := c_gk (i := i) (k := 2) (by omega) hL
  unfold L_law_j930
  have ej : ∀ v A B u, L_law_j963 xL xs (nI i) v A B u = L_law_j941 xL xs (nI i) A B s := fun _ _ _ _ => rfl
  obtain ⟨a, s1, s2, e1, e2, e3⟩ := y_frames (xs (((nI i) + (1 : Int32))).toNatClampNeg) (L_law_j941 xL xs (nI i) (xs (((nI i) + (1 : Int32))).toNatClampNeg) (xs (((nI i) + (2 : Int32))).toNatClampNeg) s) s h
  simp only [if_neg g1, if_neg g2, ej, e1, e2, if_true]
  exact ⟨s2, rfl, e3⟩
theorem c_L_law_j979 {xL : Nat} {xs : Nat → Int32} (hL : xL ≤ 3072) (i : Nat) (hi : i + 6 ≤ xL) (s : ax_S) (h : y_inv s.2.1) : ∃ t, L_law_j979 xL xs (nI i) s = some (.inl t) ∧ y_inv t.2.1 := by
  have g1 : ¬ ((nI i) + (1 : Int32) < 0 ∨ xL ≤ ((nI i) + (1 : Int32)).toNatClampNeg) := c_gk (i := i) (k := 1) (by omega) hL
  unfold L_law_j979
  obtain ⟨e1, e2⟩ := y_seed (xs (((nI i) + (1 : Int32))).toNatClampNeg) s h
  rw [if_neg g1, if_neg g1, if_pos e1]
  exact ⟨_, rfl, e2⟩
theorem c_L_law_j1002 {xL : Nat} {xs : Nat → Int32} (hL : xL ≤ 3072) (i : Nat) (hi : i + 6 ≤ xL) (s : ax_S) (h : y_inv s.2.1) : ∃ t, L_law_j1002 xL xs (nI i) s = some (.inl t) ∧ y_inv t.2.1 := by
  unfold L_law_j1002
  obtain ⟨a, s2, e1, e2, e3⟩ := y_keep s h
  simp only [e1, e2, if_true]
  exact ⟨s2, rfl, e3⟩
theorem c_L_law_j1015 {xL : Nat} {xs : Nat → Int32} (hL : xL ≤ 3072) (i : Nat) (hi : i + 6 ≤ xL) (s : ax_S) (h : y_inv s.2.1) : ∃ t, L_law_j1015 xL xs (nI i) s = some (.inl t) ∧ y_inv t.2.1 := by
  unfold L_law_j1015
  obtain ⟨a, s1, s2, e1, e2, e3⟩ := y_undo  s h
  simp only [e1, e2, if_true]
  exact ⟨s2, rfl, e3⟩
theorem c_L_law_j1028 {xL : Nat} {xs : Nat → Int32} (hL : xL ≤ 3072) (i : Nat) (hi : i + 6 ≤ xL) (s : ax_S) (h : y_inv s.2.1) : ∃ t, L_law_j1028 xL xs (nI i) s = some (.inl t) ∧ y_inv t.2.1 := by
  have g1 : ¬ ((nI i) + (1 : Int32) < 0 ∨ xL ≤ ((nI i) + (1 : Int32)).toNatClampNeg) := c_gk (i := i) (k := 1) (by omega) hL
  unfold L_law_j1028
  obtain ⟨a, s1, s2, e1, e2, e3⟩ := y_check (xs (((nI i) + (1 : Int32))).toNatClampNeg) s h
  simp only [if_neg g1, e1, e2, if_true]
  exact ⟨s2, rfl, e3⟩
theorem c_L_law_j1051 {xL : Nat} {xs : Nat → Int32} (hL : xL ≤ 3072) (i : Nat) (hi : i + 6 ≤ xL) (s : ax_S) (h : y_inv s.2.1) : ∃ t, L_law_j1051 xL xs (nI i) s = some (.inl t) ∧ y_inv t.2.1 := by
  have g1 : ¬ ((nI i) + (1 : Int32) < 0 ∨ xL ≤ ((nI i) + (1 : Int32)).toNatClampNeg) := c_gk (i := i) (k := 1) (by omega) hL
  unfold L_law_j1051
  obtain ⟨a, e1, e2⟩ := y_count (xs (((nI i) + (1 : Int32))).toNatClampNeg) s h
  simp only [if_neg g1, e1, e2, if_true]
  exact ⟨s, rfl, h⟩
theorem c_27 {xL : Nat} {xs : Nat → Int32} (hL : xL ≤ 3072) (i : Nat) (hi : i + 6 ≤ xL) (s : ax_S) (h : y_inv s.2.1) : ∃ t, L_law_j27 xL xs (nI i) s = some (.inl t) ∧ y_inv t.2.1 := by
  unfold L_law_j27
  rw [if_neg (show ¬ (nI i < 0 ∨ xL ≤ (nI i).toNatClampNeg) from c_g (i := i) (k := 0) (by omega) hL)]
  by_cases c0 : ((xs (nI i).toNatClampNeg) &&& (31 : Int32)) = (0)
  · rw [if_pos c0]
    obtain ⟨t, e1, e2⟩ := c_L_law_j168 (xs := xs) hL i hi s h
    rw [e1]
    exact ⟨t, rfl, e2⟩
  rw [if_neg c0]
  by_cases c1 : ((xs (nI i).toNatClampNeg) &&& (31 : Int32)) = (1)
  · rw [if_pos c1]
    obtain ⟨t, e1, e2⟩ := c_L_law_j201 (xs := xs) hL i hi s h
    rw [e1]
    exact ⟨t, rfl, e2⟩
  rw [if_neg c1]
  by_cases c2 : ((xs (nI i).toNatClampNeg) &&& (31 : Int32)) = (2)
  · rw [if_pos c2]
    obtain ⟨t, e1, e2⟩ := c_L_law_j224 (xs := xs) hL i hi s h
    rw [e1]
    exact ⟨t, rfl, e2⟩
  rw [if_neg c2]
  by_cases c3 : ((xs (nI i).toNatClampNeg) &&& (31 : Int32)) = (3)
  · rw [if_pos c3]
    obtain ⟨t, e1, e2⟩ := c_L_law_j287 (xs := xs) hL i hi s h
    rw [e1]
    exact ⟨t, rfl, e2⟩
  rw [if_neg c3]
  by_cases c4 : ((xs (nI i).toNatClampNeg) &&& (31 : Int32)) = (4)
  · rw [if_pos c4]
    obtain ⟨t, e1, e2⟩ := c_L_law_j310 (xs := xs) hL i hi s h
    rw [e1]
    exact ⟨t, rfl, e2⟩
  rw [if_neg c4]
  by_cases c5 : ((xs (nI i).toNatClampNeg) &&& (31 : Int32)) = (5)
  · rw [if_pos c5]
    obtain ⟨t, e1, e2⟩ := c_L_law_j333 (xs := xs) hL i hi s h
    rw [e1]
    exact ⟨t, rfl, e2⟩
  rw [if_neg c5]
  by_cases c6 : ((xs (nI i).toNatClampNeg) &&& (31 : Int32)) = (6)
  · rw [if_pos c6]
    obtain ⟨t, e1, e2⟩ := c_L_law_j356 (xs := xs) hL i hi s h
    rw [e1]
    exact ⟨t, rfl, e2⟩
  rw [if_neg c6]
  by_cases c7 : ((xs (nI i).toNatClampNeg) &&& (31 : Int32)) = (7)
  · rw [if_pos c7]
    obtain ⟨t, e1, e2⟩ := c_L_law_j369 (xs := xs) hL i hi s h
    rw [e1]
    exact ⟨t, rfl, e2⟩
  rw [if_neg c7]
  by_cases c8 : ((xs (nI i).toNatClampNeg) &&& (31 : Int32)) = (8)
  · rw [if_pos c8]
    obtain ⟨t, e1, e2⟩ := c_L_law_j392 (xs := xs) hL i hi s h
    rw [e1]
    exact ⟨t, rfl, e2⟩
  rw [if_neg c8]
  by_cases c9 : ((xs (nI i).toNatClampNeg) &&& (31 : Int32)) = (9)
  · rw [if_pos c9]
    obtain ⟨t, e1, e2⟩ := c_L_law_j425 (xs := xs) hL i hi s h
    rw [e1]
    exact ⟨t, rfl, e2⟩
  rw [if_neg c9]
  by_cases c10 : ((xs (nI i).toNatClampNeg) &&& (31 : Int32)) = (10)
  · rw [if_pos c10]
    obtain ⟨t, e1, e2⟩ := c_L_law_j458 (xs := xs) hL i hi s h
    rw [e1]
    exact ⟨t, rfl, e2⟩
  rw [if_neg c10]
  by_cases c11 : ((xs (nI i).toNatClampNeg) &&& (31 : Int32)) = (11)
  · rw [if_pos c11]
    obtain ⟨t, e1, e2⟩ := c_L_law_j491 (xs := xs) hL i hi s h
    rw [e1]
    exact ⟨t, rfl, e2⟩
  rw [if_neg c11]
  by_cases c12 : ((xs (nI i).toNatClampNeg) &&& (31 : Int32)) = (12)
  · rw [if_pos c12]
    obtain ⟨t, e1, e2⟩ := c_L_law_j524 (xs := xs) hL i hi s h
    rw [e1]
    exact ⟨t, rfl, e2⟩
  rw [if_neg c12]
  by_cases c13 : ((xs (nI i).toNatClampNeg) &&& (31 : Int32)) = (13)
  · rw [if_pos c13]
    obtain ⟨t, e1, e2⟩ := c_L_law_j547 (xs := xs) hL i hi s h
    rw [e1]
    exact ⟨t, rfl, e2⟩
  rw [if_neg c13]
  by_cases c14 : ((xs (nI i).toNatClampNeg) &&& (31 : Int32)) = (14)
  · rw [if_pos c14]
    obtain ⟨t, e1, e2⟩ := c_L_law_j610 (xs := xs) hL i hi s h
    rw [e1]
    exact ⟨t, rfl, e2⟩
  rw [if_neg c14]
  by_cases c15 : ((xs (nI i).toNatClampNeg) &&& (31 : Int32)) = (15)
  · rw [if_pos c15]
    obtain ⟨t, e1, e2⟩ := c_L_law_j633 (xs := xs) hL i hi s h
    rw [e1]
    exact ⟨t, rfl, e2⟩
  rw [if_neg c15]
  by_cases c16 : ((xs (nI i).toNatClampNeg) &&& (31 : Int32)) = (16)
  · rw [if_pos c16]
    obtain ⟨t, e1, e2⟩ := c_L_law_j666 (xs := xs) hL i hi s h
    rw [e1]
    exact ⟨t, rfl, e2⟩
  rw [if_neg c16]
  by_cases c17 : ((xs (nI i).toNatClampNeg) &&& (31 : Int32)) = (17)
  · rw [if_pos c17]
    obtain ⟨t, e1, e2⟩ := c_L_law_j699 (xs := xs) hL i hi s h
    rw [e1]
    exact ⟨t, rfl, e2⟩
  rw [if_neg c17]
  by_cases c18 : ((xs (nI i).toNatClampNeg) &&& (31 : Int32)) = (18)
  · rw [if_pos c18]
    obtain ⟨t, e1, e2⟩ := c_L_law_j722 (xs := xs) hL i hi s h
    rw [e1]
    exact ⟨t, rfl, e2⟩
  rw [if_neg c18]
  by_cases c19 : ((xs (nI i).toNatClampNeg) &&& (31 : Int32)) = (19)
  · rw [if_pos c19]
    obtain ⟨t, e1, e2⟩ := c_L_law_j745 (xs := xs) hL i hi s h
    rw [e1]
    exact ⟨t, rfl, e2⟩
  rw [if_neg c19]
  by_cases c20 : ((xs (nI i).toNatClampNeg) &&& (31 : Int32)) = (20)
  · rw [if_pos c20]
    obtain ⟨t, e1, e2⟩ := c_L_law_j778 (xs := xs) hL i hi s h
    rw [e1]
    exact ⟨t, rfl, e2⟩
  rw [if_neg c20]
  by_cases c21 : ((xs (nI i).toNatClampNeg) &&& (31 : Int32)) = (21)
  · rw [if_pos c21]
    obtain ⟨t, e1, e2⟩ := c_L_law_j811 (xs := xs) hL i hi s h
    rw [e1]
    exact ⟨t, rfl, e2⟩
  rw [if_neg c21]
  by_cases c22 : ((xs (nI i).toNatClampNeg) &&& (31 : Int32)) = (22)
  · rw [if_pos c22]
    obtain ⟨t, e1, e2⟩ := c_L_law_j854 (xs := xs) hL i hi s h
    rw [e1]
    exact ⟨t, rfl, e2⟩
  rw [if_neg c22]
  by_cases c23 : ((xs (nI i).toNatClampNeg) &&& (31 : Int32)) = (23)
  · rw [if_pos c23]
    obtain ⟨t, e1, e2⟩ := c_L_law_j877 (xs := xs) hL i hi s h
    rw [e1]
    exact ⟨t, rfl, e2⟩
  rw [if_neg c23]
  by_cases c24 : ((xs (nI i).toNatClampNeg) &&& (31 : Int32)) = (24)
  · rw [if_pos c24]
    obtain ⟨t, e1, e2⟩ := c_L_law_j930 (xs := xs) hL i hi s h
    rw [e1]
    exact ⟨t, rfl, e2⟩
  rw [if_neg c24]
  by_cases c25 : ((xs (nI i).toNatClampNeg) &&& (31 : Int32)) = (25)
  · rw [if_pos c25]
    obtain ⟨t, e1, e2⟩ := c_L_law_j979 (xs := xs) hL i hi s h
    rw [e1]
    exact ⟨t, rfl, e2⟩
  rw [if_neg c25]
  by_cases c26 : ((xs (nI i).toNatClampNeg) &&& (31 : Int32)) = (26)
  · rw [if_pos c26]
    obtain ⟨t, e1, e2⟩ := c_L_law_j1002 (xs := xs) hL i hi s h
    rw [e1]
    exact ⟨t, rfl, e2⟩
  rw [if_neg c26]
  by_cases c27 : ((xs (nI i).toNatClampNeg) &&& (31 : Int32)) = (27)
  · rw [if_pos c27]
    obtain ⟨t, e1, e2⟩ := c_L_law_j1015 (xs := xs) hL i hi s h
    rw [e1]
    exact ⟨t, rfl, e2⟩
  rw [if_neg c27]
  by_cases c28 : ((xs (nI i).toNatClampNeg) &&& (31 : Int32)) = (28)
  · rw [if_pos c28]
    obtain ⟨t, e1, e2⟩ := c_L_law_j1028 (xs := xs) hL i hi s h
    rw [e1]
    exact ⟨t, rfl, e2⟩
  rw [if_neg c28]
  by_cases c29 : ((xs (nI i).toNatClampNeg) &&& (31 : Int32)) = (29)
  · rw [if_pos c29]
    obtain ⟨t, e1, e2⟩ := c_L_law_j1051 (xs := xs) hL i hi s h
    rw [e1]
    exact ⟨t, rfl, e2⟩
  rw [if_neg c29]
  exact ⟨s, rfl, h⟩
theorem c_loop {xL : Nat} {xs : Nat → Int32} (hL : xL ≤ 3072) : ∀ (n i : Nat) (s : ax_S), i ≤ xL → xL < i + 6 * n → y_inv s.2.1 → ∃ t, L_law_l18 xL xs n (nI i) s = some (1, t) := by
  intro n
  induction n with
  | zero => intro i s h1 h2; omega
  | succ n ih =>
    intro i s h1 h2 h
    rw [L_law_l18]
    have e : ((Int32.ofNat xL) - (6 : Int32) < nI i) ↔ xL < i + 6 := by
      have e1 : (Int32.ofNat xL - (6 : Int32)).toInt = (xL : Int) - (6 : Nat) := pk_sub_toInt (a := xL) (b := 6) (by omega) (by omega)
      rw [Int32.lt_iff_toInt_lt, e1, nI_toInt (by omega)]
      omega
    by_cases c : xL < i + 6
    · rw [if_pos (e.mpr c)]
      exact ⟨s, rfl⟩
    · rw [if_neg (fun q => c (e.mp q))]
      obtain ⟨t, e1, e2⟩ := c_27 (xs := xs) hL i (by omega) s h
      rw [e1]
      have e6 : nI i + (6) = nI (i + 6) := nI_add i 6
      simp only [e6]
      exact ih (i + 6) t (by omega) (by omega) e2
