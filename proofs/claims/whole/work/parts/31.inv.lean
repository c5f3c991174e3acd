/-! THE INVARIANT between the class's cells (0 to 62) and the reference's (63 on) -/
def v_Ps (f : Nat → Nat → Int32) (b r : Nat) : Prop := ∀ p, p < 16 → f (b + 7) p = f r (60 + p) ∧ (∃ n, n ≤ 99 ∧ f r (60 + p) = nI n) ∧ f (b + 8) p = f r (76 + p) ∧ f (b + 9) p = f r (92 + p) + 1
def v_Al (f : Nat → Nat → Int32) (b r : Nat) : Prop := ∀ j w, j < 30 → w < 6 → f (b + 10) (6 * j + w) = f r (108 + 30 * w + j)
def v_Dy (f : Nat → Nat → Int32) (b r : Nat) : Prop := ∃ d x : Nat, d ≤ 9999 ∧ x ≤ 65535 ∧ f b 5 = nI d ∧ f r 289 = nI d ∧ f r 288 = nI d ∧ f b 6 = nI x ∧ f r 290 = nI x
def v_Fg (f : Nat → Nat → Int32) (b r : Nat) : Prop := v_R (vX f (b + 2)) (vM f r)
def v_St (f : Nat → Nat → Int32) (b r : Nat) : Prop := v_Fg f b r ∧ v_Ps f b r ∧ v_Al f b r ∧ v_Dy f b r
def y_e (f : Nat → Int32) : Nat → Int32 := fun i => if i < 6 then f i else 0
def y_sX (f : Nat → Nat → Int32) (t : ax_S) : Prop := ∀ c j, (37 ≤ c ∧ c ≤ 42) ∨ (c = 36 ∧ (j = 7 ∨ j = 8)) → t.2.1 c j = f c j
def y_sM (f : Nat → Nat → Int32) (t : ax_S) : Prop := ∀ c j, (74 ≤ c ∧ c ≤ 78) ∨ (c = 63 ∧ j = 14) → t.2.1 c j = f c j
/-- the laws that both hold say the same: cv: a rule's C holds, ev: what its E comes to (0: refused) -/
def y_law (f : Nat → Nat → Int32) : Prop := ∃ (R : Nat) (cv : Nat → (Nat → Int32) → Bool) (ev : Nat → (Nat → Int32) → Int32), R ≤ 16 ∧ f 36 7 = nI R ∧ f 63 14 = nI R ∧ (∀ q, q < R → f 37 q = f 75 q) ∧
  (∀ q, q < R → ∀ t, y_sX f t →
    (∃ t1, XLa_holds_36 (nI q) t = some ((if cv q (y_e fun i => t.2.1 36 (9 + i)) = true then 1 else 0), t1) ∧ t1.2.1 = t.2.1) ∧
    (f 37 q ≠ 99 → ∃ v t1, XLa_reckon_36 (t.2.1 38 q) (t.2.1 39 q) t = some (v, t1) ∧ t1.2.1 = t.2.1 ∧ ((v = 1099511627776 ∧ ev q (y_e fun i => t.2.1 36 (9 + i)) = 0) ∨ v = (ev q (y_e fun i => t.2.1 36 (9 + i))).toInt64))) ∧
  (∀ q, q < R → ∀ t, y_sM f t →
    (∃ v t1, M_comesTo (t.2.1 77 q) (t.2.1 78 q) t = some (v, t1) ∧ (∀ c, c ≠ 79 → t1.2.1 c = t.2.1 c) ∧ (v = 1 ↔ cv q (y_e (t.2.1 80)) = true)) ∧
    (f 37 q ≠ 99 → ∃ t1, M_comesTo (t.2.1 76 q) (t.2.1 77 q) t = some (ev q (y_e (t.2.1 80)), t1) ∧ (∀ c, c ≠ 79 → t1.2.1 c = t.2.1 c)))
def y_kp (f : Nat → Nat → Int32) : Prop := (f 0 13 = 0 ∧ f 63 39 = 0) ∨ (f 0 13 = 1 ∧ f 63 39 = 1 ∧ v_St f 14 66)
def y_bd (f : Nat → Nat → Int32) : Prop := ∃ n, n ≤ 99 ∧ f 0 12 = nI n ∧ f 63 3 = nI n
def y_tp (f : Nat → Nat → Int32) : Prop := ∃ l, l ≤ 260 ∧ f 1 1 = nI l ∧ f 63 5 = nI l ∧ ∀ k, k < l → f 2 k = f 67 k &&& 255
def y_ln (f : Nat → Nat → Int32) : Prop := f 52 1 = nI 12 ∧ f 53 1 = nI 20 ∧ f 54 1 = nI 16
def y_inv (f : Nat → Nat → Int32) : Prop := v_St f 3 64 ∧ y_kp f ∧ y_bd f ∧ y_tp f ∧ y_law f ∧ y_ln f
theorem g_Fg {f g : Nat → Nat → Int32} {b r : Nat} (h : v_Fg f b r) (e : ∀ k i, k < 5 → i < 12 → g (b + 2 + k) i = f (b + 2 + k) i) (e2 : ∀ j, j < 60 → g r j = f r j) : v_Fg g b r := by
  intro i hi
  have h1 := h i hi
  simp only [v_ok, vX, vM] at h1 ⊢
  rw [e 0 i (by omega) hi, e 1 i (by omega) hi, e 2 i (by omega) hi, e 3 i (by omega) hi, e 4 i (by omega) hi, e2 _ (by omega), e2 (12 * 1 + i) (by omega), e2 (12 * 2 + i) (by omega), e2 (12 * 3 + i) (by omega), e2 (12 * 4 + i) (by omega)]
  exact h1
theorem g_Ps {f g : Nat → Nat → Int32} {b r : Nat} (h : v_Ps f b r) (e : ∀ k i, k < 3 → i < 16 → g (b + 7 + k) i = f (b + 7 + k) i) (e2 : ∀ j, 60 ≤ j → j < 108 → g r j = f r j) : v_Ps g b r := by
  intro p hp
  have h1 := h p hp
  have a0 := e 0 p (by omega) hp
  have a1 : g (b + 8) p = f (b + 8) p := e 1 p (by omega) hp
  have a2 : g (b + 9) p = f (b + 9) p := e 2 p (by omega) hp
  rw [a1, a2, e2 _ (by omega) (by omega), e2 (76 + p) (by omega) (by omega), e2 (92 + p) (by omega) (by omega)]
  rw [Nat.add_zero] at a0
  rw [a0]
  exact h1
theorem g_Al {f g : Nat → Nat → Int32} {b r : Nat} (h : v_Al f b r) (e : ∀ i, i < 180 → g (b + 10) i = f (b + 10) i) (e2 : ∀ j, 108 ≤ j → j < 288 → g r j = f r j) : v_Al g b r := by
  intro j w hj hw
  rw [e _ (by omega), e2 _ (by omega) (by omega)]
  exact h j w hj hw
theorem g_Dy {f g : Nat → Nat → Int32} {b r : Nat} (h : v_Dy f b r) (e : g b 5 = f b 5) (e1 : g b 6 = f b 6) (e2 : ∀ j, 288 ≤ j → j < 291 → g r j = f r j) : v_Dy g b r := by
  unfold v_Dy at h ⊢
  rw [e, e1, e2 288 (by omega) (by omega), e2 289 (by omega) (by omega), e2 290 (by omega) (by omega)]
  exact h
theorem g_St {f g : Nat → Nat → Int32} {b r : Nat} (h : v_St f b r) (e : ∀ c j, b + 2 ≤ c → c ≤ b + 10 → g c j = f c j) (e0 : g b 5 = f b 5) (e1 : g b 6 = f b 6) (e2 : ∀ j, j < 291 → g r j = f r j) : v_St g b r :=
  ⟨g_Fg h.1 (fun k i hk _ => e _ _ (by omega) (by omega)) (fun j hj => e2 j (by omega)), g_Ps h.2.1 (fun k i hk _ => e _ _ (by omega) (by omega)) (fun j _ hj => e2 j (by omega)), g_Al h.2.2.1 (fun i _ => e _ _ (by omega) (by omega)) (fun j _ hj => e2 j (by omega)), g_Dy h.2.2.2 e0 e1 (fun j _ hj => e2 j (by omega))⟩
theorem g_law {f g : Nat → Nat → Int32} (h : y_law f) (e : ∀ c j, (37 ≤ c ∧ c ≤ 42) ∨ (c = 36 ∧ (j = 7 ∨ j = 8)) → g c j = f c j) (e2 : ∀ c j, (74 ≤ c ∧ c ≤ 78) ∨ (c = 63 ∧ j = 14) → g c j = f c j) : y_law g := by
  obtain ⟨R, cv, ev, h0, h1, h2, h3, h4, h5⟩ := h
  refine ⟨R, cv, ev, h0, by rw [e _ _ (Or.inr ⟨rfl, Or.inl rfl⟩)]; exact h1, by rw [e2 _ _ (Or.inr ⟨rfl, rfl⟩)]; exact h2, fun q hq => by rw [e _ _ (Or.inl (by omega)), e2 _ _ (Or.inl (by omega))]; exact h3 q hq, fun q hq t ht => ?_, fun q hq t ht => ?_⟩
  · rw [e 37 q (Or.inl (by omega))]
    exact h4 q hq t fun c j hc => by rw [ht c j hc, e c j hc]
  · rw [e 37 q (Or.inl (by omega))]
    exact h5 q hq t fun c j hc => by rw [ht c j hc, e2 c j hc]
abbrev k_N (c j : Nat) : Prop := (5 ≤ c ∧ c ≤ 13) ∨ c = 64 ∨ (c = 3 ∧ (j = 5 ∨ j = 6))
abbrev k_K (c j : Nat) : Prop := (16 ≤ c ∧ c ≤ 24) ∨ c = 66 ∨ (c = 14 ∧ (j = 5 ∨ j = 6)) ∨ (c = 0 ∧ j = 13) ∨ (c = 63 ∧ j = 39)
abbrev k_B (c j : Nat) : Prop := (c = 0 ∧ j = 12) ∨ (c = 63 ∧ j = 3)
abbrev k_T (c j : Nat) : Prop := c = 2 ∨ c = 67 ∨ (c = 1 ∧ j = 1) ∨ (c = 63 ∧ j = 5)
abbrev k_L (c j : Nat) : Prop := (37 ≤ c ∧ c ≤ 42) ∨ (74 ≤ c ∧ c ≤ 78) ∨ (c = 36 ∧ (j = 7 ∨ j = 8)) ∨ (c = 63 ∧ j = 14)
abbrev k_C (c j : Nat) : Prop := (c = 52 ∨ c = 53 ∨ c = 54) ∧ j = 1
theorem g_now {f g : Nat → Nat → Int32} (h : v_St f 3 64) (e : ∀ c j, k_N c j → g c j = f c j) : v_St g 3 64 :=
  g_St h (fun c j h4 h5 => e c j (by omega)) (e _ _ (by omega)) (e _ _ (by omega)) (fun j _ => e _ _ (by omega))
theorem g_kp {f g : Nat → Nat → Int32} (h : y_kp f) (e : ∀ c j, k_K c j → g c j = f c j) : y_kp g := by
  have a := e 0 13 (by omega)
  have b := e 63 39 (by omega)
  rcases h with ⟨h1, h2⟩ | ⟨h1, h2, h3⟩
  · exact Or.inl ⟨by rw [a]; exact h1, by rw [b]; exact h2⟩
  · exact Or.inr ⟨by rw [a]; exact h1, by rw [b]; exact h2, g_St h3 (fun c j h4 h5 => e c j (by omega)) (e _ _ (by omega)) (e _ _ (by omega)) (fun j _ => e _ _ (by omega))⟩
theorem g_bd {f g : Nat → Nat → Int32} (h : y_bd f) (e : ∀ c j, k_B c j → g c j = f c j) : y_bd g := by
  unfold y_bd at h ⊢
  rw [e 0 12 (by omega), e 63 3 (by omega)]
  exact h
theorem g_tp {f g : Nat → Nat → Int32} (h : y_tp f) (e : ∀ c j, k_T c j → g c j = f c j) : y_tp g := by
  obtain ⟨l, h1, h2, h3, h4⟩ := h
  exact ⟨l, h1, by rw [e 1 1 (by omega)]; exact h2, by rw [e 63 5 (by omega)]; exact h3, fun k hk => by rw [e 2 k (by omega), e 67 k (by omega)]; exact h4 k hk⟩
theorem g_ln {f g : Nat → Nat → Int32} (h : y_ln f) (e : ∀ c j, k_C c j → g c j = f c j) : y_ln g := by
  unfold y_ln at h ⊢
  rw [e 52 1 (by omega), e 53 1 (by omega), e 54 1 (by omega)]
  exact h
theorem g_lawk {f g : Nat → Nat → Int32} (h : y_law f) (e : ∀ c j, k_L c j → g c j = f c j) : y_law g :=
  g_law h (fun c j hc => e c j (by omega)) (fun c j hc => e c j (by omega))
/-- everything but the story of now -/
theorem g_oth {f g : Nat → Nat → Int32} (h : y_inv f) (hn : v_St g 3 64) (e : ∀ c j, k_K c j ∨ k_B c j ∨ k_T c j ∨ k_L c j ∨ k_C c j → g c j = f c j) : y_inv g :=
  ⟨hn, g_kp h.2.1 fun c j k => e c j (Or.inl k), g_bd h.2.2.1 fun c j k => e c j (Or.inr (Or.inl k)), g_tp h.2.2.2.1 fun c j k => e c j (Or.inr (Or.inr (Or.inl k))), g_lawk h.2.2.2.2.1 fun c j k => e c j (Or.inr (Or.inr (Or.inr (Or.inl k)))), g_ln h.2.2.2.2.2 fun c j k => e c j (Or.inr (Or.inr (Or.inr (Or.inr k))))⟩
theorem g_inv {f g : Nat → Nat → Int32} (h : y_inv f) (e : ∀ c j, k_N c j ∨ k_K c j ∨ k_B c j ∨ k_T c j ∨ k_L c j ∨ k_C c j → g c j = f c j) : y_inv g :=
  g_oth h (g_now h.1 fun c j k => e c j (Or.inl k)) fun c j k => e c j (Or.inr k)
/-- all but the tape -/
theorem g_tape {f g : Nat → Nat → Int32} (h : y_inv f) (ht : y_tp g) (e : ∀ c j, k_N c j ∨ k_K c j ∨ k_B c j ∨ k_L c j ∨ k_C c j → g c j = f c j) : y_inv g :=
  ⟨g_now h.1 fun c j k => e c j (Or.inl k), g_kp h.2.1 fun c j k => e c j (Or.inr (Or.inl k)), g_bd h.2.2.1 fun c j k => e c j (Or.inr (Or.inr (Or.inl k))), ht, g_lawk h.2.2.2.2.1 fun c j k => e c j (Or.inr (Or.inr (Or.inr (Or.inl k)))), g_ln h.2.2.2.2.2 fun c j k => e c j (Or.inr (Or.inr (Or.inr (Or.inr k))))⟩
/-- two writes -/
theorem r_two {s : ax_S} {a i a2 i2 : Nat} {x x2 : Int32} (c j : Nat) (h : ¬ (c = a ∧ j = i)) (h2 : ¬ (c = a2 ∧ j = i2)) : (ax_sI (ax_sI s a i x) a2 i2 x2).2.1 c j = s.2.1 c j := by
  by_cases h7 : c = a2
  · subst h7
    rw [r_Ie, r_un (by omega)]
    by_cases h8 : c = a
    · subst h8
      rw [r_Ie, r_un (by omega)]
    · rw [r_I h8]
  · rw [r_I h7]
    by_cases h8 : c = a
    · subst h8
      rw [r_Ie, r_un (by omega)]
    · rw [r_I h8]
theorem r_one {s : ax_S} {a i : Nat} {x : Int32} (c j : Nat) (h : ¬ (c = a ∧ j = i)) : (ax_sI s a i x).2.1 c j = s.2.1 c j := by
  by_cases h8 : c = a
  · subst h8
    rw [r_Ie, r_un (by omega)]
  · rw [r_I h8]
/-- both answer, alike, and the invariant holds behind them -/
def y_sim (X M : ax_S → Option (Int32 × ax_S)) (s : ax_S) : Prop := ∃ a s1 s2, X s = some (a, s1) ∧ M s1 = some (a, s2) ∧ y_inv s2.2.1
theorem y_same {X M : ax_S → Option (Int32 × ax_S)} {s : ax_S} (h : y_inv s.2.1) (a : Int32) (h1 : X s = some (a, s)) (h2 : M s = some (a, s)) : y_sim X M s := ⟨a, s, s, h1, h2, h⟩
theorem z_per (x : Int32) (s : ax_S) : (M_isPerson x s = 0 ∧ X_isPerson x s = 0) ∨ (M_isPerson x s = 1 ∧ X_isPerson x s = 1 ∧ ∃ n, n < 16 ∧ x = nI n) := by
  rcases z_inX (x := x) (s := s) 0 15 (by omega) (by omega) with h | ⟨h, n, -, h2, h3⟩
  · exact Or.inl ⟨h, h⟩
  · exact Or.inr ⟨h, h, n, by omega, h3⟩
theorem y_bound (m : Int32) (s : ax_S) (h : y_inv s.2.1) : (X_bound m s).1 = (M_bound m (X_bound m s).2).1 ∧ y_inv (M_bound m (X_bound m s).2).2.2.1 := by
  unfold X_bound M_bound
  rw [X_within_eq]
  rcases z_inX (x := m) (s := s) 0 99 (by omega) (by omega) with h1 | ⟨h1, n, -, h2, h3⟩
  · have h2 : M_in m 0 99 s = 0 := h1
    rw [if_pos h2, if_pos h2]
    exact ⟨rfl, h⟩
  · have h4 : ¬ M_in m 0 99 s = 0 := by
      show ¬ M_in m (nI 0) (nI 99) s = 0
      rw [h1]; decide
    have e0 : ∀ t, M_in m 0 99 t = M_in m 0 99 s := fun _ => rfl
    simp only [e0, h4, if_false]
    refine ⟨trivial, ?_⟩
    subst h3
    have e : ∀ c j, ¬ (c = 0 ∧ j = 12) → ¬ (c = 63 ∧ j = 3) → (ax_sI (ax_sI s 0 12 (nI n)) 63 3 (nI n)).2.1 c j = s.2.1 c j := fun c j h5 h6 => r_two c j h5 h6
    exact ⟨g_now h.1 fun c j k => e c j (by omega) (by omega), g_kp h.2.1 fun c j k => e c j (by omega) (by omega), ⟨n, by omega, rfl, rfl⟩, g_tp h.2.2.2.1 fun c j k => e c j (by omega) (by omega), g_lawk h.2.2.2.2.1 fun c j k => e c j (by omega) (by omega), h.2.2.2.2.2⟩
theorem y_seed (x : Int32) (s : ax_S) (h : y_inv s.2.1) : (X_seed x s).1 = (M_seed x (X_seed x s).2).1 ∧ y_inv (M_seed x (X_seed x s).2).2.2.1 := by
  unfold X_seed M_seed XSt_setX_3
  rw [X_within_eq]
  rcases z_inX (x := x) (s := s) 0 65535 (by omega) (by omega) with h1 | ⟨h1, n, -, h2, h3⟩
  · have h2 : M_in x 0 65535 s = 0 := h1
    rw [if_pos h2, if_pos h2]
    exact ⟨rfl, h⟩
  · have h4 : ¬ M_in x 0 65535 s = 0 := by
      show ¬ M_in x (nI 0) (nI 65535) s = 0
      rw [h1]; decide
    have e0 : ∀ t, M_in x 0 65535 t = M_in x 0 65535 s := fun _ => rfl
    simp only [e0, h4, if_false]
    refine ⟨trivial, ?_⟩
    subst h3
    have e : ∀ c j, ¬ (c = 3 ∧ j = 6) → ¬ (c = 64 ∧ j = 290) → (ax_sI (ax_sI s 3 6 (nI n)) 64 290 (nI n)).2.1 c j = s.2.1 c j := fun c j h5 h6 => r_two c j h5 h6
    refine g_oth h ⟨g_Fg h.1.1 (fun k i hk _ => e _ _ (by omega) (by omega)) (fun j hj => e _ _ (by omega) (by omega)), g_Ps h.1.2.1 (fun k i hk _ => e _ _ (by omega) (by omega)) (fun j _ hj => e _ _ (by omega) (by omega)), g_Al h.1.2.2.1 (fun i _ => e _ _ (by omega) (by omega)) (fun j _ hj => e _ _ (by omega) (by omega)), ?_⟩ fun c j k => e c j (by omega) (by omega)
    obtain ⟨d, x, h6, h7, h8, h9, h10, h11, h12⟩ := h.1.2.2.2
    exact ⟨d, n, h6, h2, by rw [e _ _ (by omega) (by omega)]; exact h8, by rw [e _ _ (by omega) (by omega)]; exact h9, by rw [e _ _ (by omega) (by omega)]; exact h10, rfl, rfl⟩
theorem y_pain (p m : Int32) (s : ax_S) (h : y_inv s.2.1) : y_sim (X_pain p m) (M_pain p m) s := by
  rcases z_per p s with ⟨h1, h2⟩ | ⟨h1, h2, n, hn, rfl⟩
  · exact y_same h 0 (by unfold X_pain; rw [if_pos h2]) (by unfold M_pain; rw [if_pos h1])
  · have h3 : ¬ X_isPerson (nI n) s = 0 := by rw [h2]; decide
    have h4 : ¬ M_isPerson (nI n) s = 0 := by rw [h1]; decide
    rcases z_inX (x := m) (s := s) 0 99 (by omega) (by omega) with h5 | ⟨h5, v, -, hv, rfl⟩
    · have h6 : M_in m 0 99 s = 0 := h5
      exact y_same h 0 (by unfold X_pain; rw [if_neg h3, X_within_eq, if_pos h6]) (by unfold M_pain; rw [if_neg h4, if_pos h6])
    · have h6 : ¬ M_in (nI v) 0 99 s = 0 := by
        show ¬ M_in (nI v) (nI 0) (nI 99) s = 0
        rw [h5]; decide
      refine ⟨1, ax_sI s 10 n (nI v), ax_sI (ax_sI s 10 n (nI v)) 64 (60 + n) (nI v), ?_, ?_, ?_⟩
      · unfold X_pain
        rw [if_neg h3, X_within_eq, if_neg h6]
        unfold XSt_setPain_3
        rw [if_neg h3]
        simp (disch := omega) only [z_cl, z_lt0, z_nle, or_self, if_false, q_99, z_lt]
        rw [show (if v < 99 then nI v else nI 99) = nI v by split; rfl; rw [show v = 99 by omega]]
        by_cases hv0 : v = 0
        · subst hv0; rfl
        · rw [if_pos (by rw [z_0lt (by omega)]; omega)]
      · unfold M_pain
        rw [if_neg (by exact h4), if_neg (by exact h6)]
        simp (disch := omega) only [q_60, nI_add, z_cl, z_lt0, z_nle, or_self, if_false]
      · have e : ∀ c j, ¬ (c = 10 ∧ j = n) → ¬ (c = 64 ∧ j = 60 + n) → (ax_sI (ax_sI s 10 n (nI v)) 64 (60 + n) (nI v)).2.1 c j = s.2.1 c j := fun c j h5 h6 => r_two c j h5 h6
        refine g_oth h ⟨g_Fg h.1.1 (fun k i hk _ => e _ _ (by omega) (by omega)) (fun j hj => e _ _ (by omega) (by omega)), ?_, g_Al h.1.2.2.1 (fun i _ => e _ _ (by omega) (by omega)) (fun j _ hj => e _ _ (by omega) (by omega)), g_Dy h.1.2.2.2 (e _ _ (by omega) (by omega)) (e _ _ (by omega) (by omega)) (fun j _ hj => e _ _ (by omega) (by omega))⟩ fun c j k => e c j (by omega) (by omega)
        intro p hp
        have h7 := h.1.2.1 p hp
        by_cases hpn : p = n
        · subst hpn
          refine ⟨?_, ⟨v, hv, ?_⟩, ?_, ?_⟩
          · rw [r_Ie, r_u, r_I (by omega), r_Ie, r_u]
          · rw [r_Ie, r_u]
          · rw [e _ _ (by omega) (by omega), e _ _ (by omega) (by omega)]; exact h7.2.2.1
          · rw [e _ _ (by omega) (by omega), e _ _ (by omega) (by omega)]; exact h7.2.2.2
        · rw [e _ _ (by omega) (by omega), e _ _ (by omega) (by omega), e _ _ (by omega) (by omega), e _ (76 + p) (by omega) (by omega), e _ _ (by omega) (by omega), e _ (92 + p) (by omega) (by omega)]
          exact h7
