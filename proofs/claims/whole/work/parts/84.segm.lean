/-! law: what a piece of the reference's code does -/
def l_cd (k p : Nat) : Int32 := nI (1048576 * k + p)
theorem l_cd1 {k p : Nat} (hk : k ≤ 14) (hp : p < 1048576) : l_cd k p / 1048576 = nI k ∧ l_cd k p - l_cd k p / 1048576 * 1048576 = nI p := by
  unfold l_cd
  have e1 : nI (1048576 * k + p) / 1048576 = nI ((1048576 * k + p) / 1048576) := z_div (a := 1048576 * k + p) (d := 1048576) (by omega) (by omega) (by omega)
  have e2 : nI (1048576 * k + p) - nI (1048576 * k + p) / 1048576 * 1048576 = nI ((1048576 * k + p) % 1048576) := z_rem (a := 1048576 * k + p) (d := 1048576) (by omega) (by omega) (by omega)
  exact ⟨by rw [e1, show (1048576 * k + p) / 1048576 = k by omega], by rw [e2, show (1048576 * k + p) % 1048576 = p by omega]⟩
/-- codes i to i + m of row 74 push V, or the run ends with 0; what waits below stays -/
def l_sgM (F : Nat → Int32) (i m : Nat) (V : (Nat → Int32) → Option Int32) (D : Nat) : Prop :=
  ∀ (s : ax_S) (h e n : Nat), (∀ q, i ≤ q → q < i + m → s.2.1 74 q = F q) → i + m ≤ e → e ≤ 260 → h + D ≤ 260 →
    (∃ (t : ax_S) (n2 : Nat), n ≤ n2 ∧ V (y_e (s.2.1 80)) = some (t.2.1 79 h) ∧ M_comesTo_l16 (n + m) (nI e) (nI h) 0 (nI i) s = M_comesTo_l16 n2 (nI e) (nI (h + 1)) 0 (nI (i + m)) t ∧ (∀ c, c ≠ 79 → t.2.1 c = s.2.1 c) ∧ ∀ q, q < h → t.2.1 79 q = s.2.1 79 q) ∨
    (V (y_e (s.2.1 80)) = none ∧ ∃ t : ax_S, M_comesTo_l16 (n + m) (nI e) (nI h) 0 (nI i) s = some (0, t) ∧ ∀ c, c ≠ 79 → t.2.1 c = s.2.1 c)
theorem l_in {k N : Nat} (h : k < N) (hN : N ≤ 1000) : ¬ (nI k < 0 ∨ N ≤ (nI k).toNatClampNeg) := by
  rw [z_cl (by omega)]
  rintro (h1 | h1)
  · exact nI_pos (by omega) h1
  · omega
theorem l_sgM_num {F : Nat → Int32} {i p : Nat} (hp : p < 1048576) (h0 : F i = l_cd 0 p) : l_sgM F i 1 (fun _ => some (nI p)) 1 := by
  intro s h e n hF he he2 hh
  have f1 := hF i (Nat.le_refl i) (by omega)
  obtain ⟨c1, c2⟩ := l_cd1 (k := 0) (p := p) (by omega) hp
  refine Or.inl ⟨ax_sI s 79 h (nI p), n, Nat.le_refl n, by rw [r_Ie, r_u], ?_, fun c hc => r_I hc, fun q hq => r_one _ _ (by omega)⟩
  rw [M_comesTo_l16, if_neg (by rw [z_le (by omega) (by omega)]; omega), if_neg (l_in (k := i) (N := 260) (by omega) (by omega)), if_neg (l_in (k := i) (N := 260) (by omega) (by omega)), z_cl (a := i) (by omega), f1, h0, c2, c1, if_pos (show nI 0 = 0 from rfl), if_pos (show nI 0 = 0 from rfl), if_neg (l_in (k := h) (N := 260) (by omega) (by omega)), z_cl (a := h) (by omega), z_1, z_1]
theorem l_sgM_let {F : Nat → Int32} {i x : Nat} (hx : x < 6) (h0 : F i = l_cd 1 x) : l_sgM F i 1 (fun E => some (E x)) 1 := by
  intro s h e n hF he he2 hh
  have f1 := hF i (Nat.le_refl i) (by omega)
  obtain ⟨c1, c2⟩ := l_cd1 (k := 1) (p := x) (by omega) (by omega)
  refine Or.inl ⟨ax_sI s 79 h (s.2.1 80 x), n, Nat.le_refl n, by rw [r_Ie, r_u]; show some (y_e (s.2.1 80) x) = _; unfold y_e; rw [if_pos hx], ?_, fun c hc => r_I hc, fun q hq => r_one _ _ (by omega)⟩
  rw [M_comesTo_l16, if_neg (by rw [z_le (by omega) (by omega)]; omega), if_neg (l_in (k := i) (N := 260) (by omega) (by omega)), if_neg (l_in (k := i) (N := 260) (by omega) (by omega)), z_cl (a := i) (by omega), f1, h0, c2, c1, if_neg (show ¬ nI 1 = 0 by decide), if_pos (show nI 1 = 1 from rfl), if_neg (show ¬ nI 1 = 0 by decide), if_neg (l_in (k := x) (N := 6) (by omega) (by omega)), if_neg (l_in (k := h) (N := 260) (by omega) (by omega)), z_cl (a := h) (by omega), z_cl (a := x) (by omega), z_1, z_1]
