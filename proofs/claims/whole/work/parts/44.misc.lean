/-! fold, album, check, mirror -/
def z_c0 : ax_S := (0, fun _ _ => 0, fun _ _ => 0)
theorem fo_1 (s : ax_S) : ∀ n a b c d e f, XSh_creases_l25 n a b c d e f s = XSh_creases_l25 n a b c d e f z_c0 := by
  intro n
  induction n with
  | zero => intros; rfl
  | succ n ih => intros; simp only [XSh_creases_l25, ih]
theorem fo_2 (s : ax_S) : ∀ n a b c d, XSh_creases_l7 n a b c d s = XSh_creases_l7 n a b c d z_c0 := by
  intro n
  induction n with
  | zero => intros; rfl
  | succ n ih => intros; simp only [XSh_creases_l7, fo_1 s, ih]
theorem fo_3 (s : ax_S) : ∀ n a b c d e f, M_fold_l34 n a b c d e f s = M_fold_l34 n a b c d e f z_c0 := by
  intro n
  induction n with
  | zero => intros; rfl
  | succ n ih => intros; simp only [M_fold_l34, ih]; rfl
theorem fo_4 (s : ax_S) : ∀ n a b c d, M_fold_l18 n a b c d s = M_fold_l18 n a b c d z_c0 := by
  intro n
  induction n with
  | zero => intros; rfl
  | succ n ih => intros; simp only [M_fold_l18, fo_3 s, ih]
theorem fo_5 : ∀ n, n < 5 → 1 ≤ n → X_fold (nI n) z_c0 = M_fold (nI n) z_c0 ∧ (X_fold (nI n) z_c0).isSome = true := by decide +kernel
theorem y_fold (x : Int32) (s : ax_S) : ∃ a, X_fold x s = some a ∧ M_fold x s = some a := by
  have e1 : X_fold x s = X_fold x z_c0 := by unfold X_fold XSh_creases; rw [fo_2 s]; rfl
  have e2 : M_fold x s = M_fold x z_c0 := by unfold M_fold; rw [fo_4 s]; rfl
  rw [e1, e2]
  rcases z_inX (x := x) (s := z_c0) 1 4 (by omega) (by omega) with h | ⟨h, n, h1, h2, rfl⟩
  · have h : M_in x 1 4 z_c0 = 0 := h
    refine ⟨-1, ?_, ?_⟩
    · unfold X_fold; rw [X_within_eq, if_pos h]
    · unfold M_fold; rw [if_pos h]
  · obtain ⟨h3, h4⟩ := fo_5 n (by omega) h1
    obtain ⟨a, ha⟩ := Option.isSome_iff_exists.mp h4
    exact ⟨a, ha, by rw [← h3]; exact ha⟩
theorem y_album (i w : Int32) (s : ax_S) (h : y_inv s.2.1) : ∃ a, X_album i w s = some a ∧ M_album i w s = some a := by
  unfold X_album M_album
  rw [X_within_eq, X_within_eq]
  rcases z_inX (x := i) (s := s) 1 30 (by omega) (by omega) with h1 | ⟨h1, n, hn1, hn2, rfl⟩
  · have h1 : M_in i 1 30 s = 0 := h1
    rw [if_pos h1, if_pos h1]
    exact ⟨_, rfl, rfl⟩
  · have h2 : ¬ M_in (nI n) 1 30 s = 0 := by
      show ¬ M_in (nI n) (nI 1) (nI 30) s = 0
      rw [h1]; decide
    rw [if_neg h2, if_neg h2]
    rcases z_inX (x := w) (s := s) 0 5 (by omega) (by omega) with h3 | ⟨h3, k, hk1, hk2, rfl⟩
    · have h3 : M_in w 0 5 s = 0 := h3
      rw [if_pos h3, if_pos h3]
      exact ⟨_, rfl, rfl⟩
    · have h4 : ¬ M_in (nI k) 0 5 s = 0 := by
        show ¬ M_in (nI k) (nI 0) (nI 5) s = 0
        rw [h3]; decide
      rw [if_neg h4, if_neg h4]
      obtain ⟨d, x, hd, -, e1, e2, e3, -, -⟩ := h.1.2.2.2
      unfold XSt_pasted_3 XSt_cutPlace
      rw [e1, e3]
      have c1 : ¬ (nI n < (1 : Int32)) := by rw [q_1, z_lt (by omega) (by omega)]; omega
      rw [if_neg c1]
      by_cases c2 : n ≤ d
      · have c3 : nI n ≤ nI d := by rw [z_le (by omega) (by omega)]; exact c2
        rw [if_pos c3, if_pos c3]
        have hm : (d - n) % 30 < 30 := Nat.mod_lt _ (by omega)
        simp (disch := omega) only [q_30, q_6, q_180, q_108, z_sub, z_rem, pk_mul, nI_add, z_cl, z_lt0, z_le, z_nle, if_false, or_self]
        rw [← h.1.2.2.1 ((d - n) % 30) k hm (by omega)]
        refine ⟨_, rfl, ?_⟩
        rw [Nat.mul_comm 6]
      · have c3 : ¬ nI n ≤ nI d := by rw [z_le (by omega) (by omega)]; exact c2
        rw [if_neg c3, if_neg c3]
        exact ⟨_, rfl, rfl⟩
/-! bytes -/
theorem y_tpB {f : Nat → Nat → Int32} (h : y_tp f) : ∃ (l : Nat) (B : Nat → Nat), l ≤ 260 ∧ f 1 1 = nI l ∧ f 63 5 = nI l ∧ (∀ k, B k < 256) ∧ (∀ k, k < l → f 2 k = nI (B k)) ∧ ∀ k, f 67 k &&& 255 = nI (B k) := by
  obtain ⟨l, h1, h2, h3, h4⟩ := h
  refine ⟨l, fun k => (y_byte (f 67 k)).choose, h1, h2, h3, fun k => (y_byte (f 67 k)).choose_spec.1, fun k hk => ?_, fun k => (y_byte (f 67 k)).choose_spec.2⟩
  rw [h4 k hk]
  exact (y_byte (f 67 k)).choose_spec.2
theorem XB {s : ax_S} {l : Nat} {B : Nat → Nat} (hl : l ≤ 260) (h : s.2.1 1 1 = nI l) (hB : ∀ k, k < l → s.2.1 2 k = nI (B k)) {k : Nat} (hk : k < l) : XTa_byteAt (nI k) s = some (nI (B k)) := by
  rw [X_byteAt_eq hl h hk, hB k hk]
theorem MB {s : ax_S} {B : Nat → Nat} (hB : ∀ k, s.2.1 67 k &&& 255 = nI (B k)) {k : Nat} (hk : k < 260) : M_octet (nI k) s = some (nI (B k)) := by
  rw [M_octet_eq hk, hB k]
/-- the tape is empty behind a call that took it -/
theorem y_emp {s t : ax_S} (h : y_inv s.2.1) (h1 : t.2.1 1 1 = 0) (h2 : t.2.1 63 5 = 0) (e : ∀ c j, k_N c j ∨ k_K c j ∨ k_B c j ∨ k_L c j ∨ k_C c j → t.2.1 c j = s.2.1 c j) : y_inv t.2.1 :=
  g_tape h ⟨0, by omega, h1, h2, fun k hk => absurd hk (Nat.not_lt_zero _)⟩ e
theorem X_holds_eq {s : ax_S} {l : Nat} (h : s.2.1 1 1 = nI l) (x : Int32) : XTa_holds x s = if nI l < x then 0 else 1 := by
  unfold XTa_holds; rw [h]
theorem X_holds_n {s : ax_S} {l n : Nat} (hl : l ≤ 260) (hn : n ≤ 1000) (h : s.2.1 1 1 = nI l) : (XTa_holds (nI n) s = 0) = (l < n) := by
  rw [X_holds_eq h]
  simp only [z_lt (show l < 2147483648 by omega) (show n < 2147483648 by omega)]
  by_cases c : l < n <;> simp [c]
theorem y_check (x : Int32) (s : ax_S) (h : y_inv s.2.1) : y_sim (X_check x) (M_check x) s := by
  rcases z_inX (x := x) (s := s) 0 16 (by omega) (by omega) with h1 | ⟨h1, n, -, hn, rfl⟩
  · have h1 : M_in x 0 16 s = 0 := h1
    exact y_same h (-2) (by unfold X_check; rw [X_within_eq, if_pos h1]) (by unfold M_check; rw [if_pos h1])
  · have h2 : ¬ M_in (nI n) 0 16 s = 0 := by
      show ¬ M_in (nI n) (nI 0) (nI 16) s = 0
      rw [h1]; decide
    obtain ⟨l, B, hl, e1, e2, eB, eX, eM⟩ := y_tpB h.2.2.2.1
    by_cases c : l < n
    · refine y_same h (-2) ?_ ?_
      · unfold X_check
        rw [X_within_eq, if_neg h2, if_pos (by rw [X_holds_n hl (by omega) e1]; exact c)]
      · unfold M_check
        rw [if_neg h2, e2, if_neg (by rw [z_le (by omega) (by omega)]; omega)]
    · -- the first that is wrong
      have hX : ∃ a, X_check_l28 70000 (nI n) (-1) 0 s = some a ∧ ((a = -1 ∧ ∀ p, p < n → nI (B p) = s.2.1 64 (60 + p)) ∨ ∃ p, p < n ∧ a = nI p ∧ nI (B p) ≠ s.2.1 64 (60 + p) ∧ ∀ q, q < p → nI (B q) = s.2.1 64 (60 + q)) := by
        obtain ⟨b, g1, g2⟩ := z_for (fun m k (a : Int32) => X_check_l28 m (nI n) a (nI k) s) n (fun k a => (a = -1 ∧ ∀ p, p < k → nI (B p) = s.2.1 64 (60 + p)) ∨ ∃ p, p < k ∧ a = nI p ∧ nI (B p) ≠ s.2.1 64 (60 + p) ∧ ∀ q, q < p → nI (B q) = s.2.1 64 (60 + q)) (fun a => (a = -1 ∧ ∀ p, p < n → nI (B p) = s.2.1 64 (60 + p)) ∨ ∃ p, p < n ∧ a = nI p ∧ nI (B p) ≠ s.2.1 64 (60 + p) ∧ ∀ q, q < p → nI (B q) = s.2.1 64 (60 + q)) (fun m a ha => ⟨a, by
          show X_check_l28 (m + 1) (nI n) a (nI n) s = some a
          rw [X_check_l28]
          exact if_pos (Int32.le_refl _), ha⟩) (fun m k a hk ha => by
          show (∃ b, X_check_l28 (m + 1) (nI n) a (nI k) s = some b ∧ _) ∨ ∃ a', X_check_l28 (m + 1) (nI n) a (nI k) s = X_check_l28 m (nI n) a' (nI (k + 1)) s ∧ _
          rw [X_check_l28, if_neg (by rw [z_le (by omega) (by omega)]; omega)]
          rcases ha with ⟨rfl, ha⟩ | ⟨p, p1, rfl, p2, p3⟩
          · rw [if_pos rfl, XB hl e1 eX (show k < l by omega)]
            unfold XSt_painOf_3
            have hper : ¬ X_isPerson (nI k) s = 0 := by
              unfold X_isPerson X_isWithin
              rw [if_neg (nI_pos (by omega)), if_neg (by rw [q_15, z_lt (by omega) (by omega)]; omega)]
              decide
            rw [if_neg hper]
            simp (disch := omega) only [z_cl, z_lt0, z_nle, z_1, if_false, or_self]
            rw [show s.2.1 10 k = s.2.1 64 (60 + k) from (h.1.2.1 k (by omega)).1]
            by_cases d : nI (B k) = s.2.1 64 (60 + k)
            · rw [if_pos d]
              refine Or.inr ⟨_, rfl, Or.inl ⟨rfl, fun p hp => ?_⟩⟩
              rcases Nat.lt_or_eq_of_le (Nat.lt_succ_iff.mp hp) with q | rfl
              · exact ha p q
              · exact d
            · rw [if_neg d]
              exact Or.inr ⟨_, rfl, Or.inr ⟨k, by omega, rfl, d, ha⟩⟩
          · rw [if_neg (by rw [z_nne (by omega)]; exact id)]
            exact Or.inl ⟨_, rfl, Or.inr ⟨p, by omega, rfl, p2, p3⟩⟩) 70000 0 (-1) (Nat.zero_le _) (Or.inl ⟨rfl, fun p hp => absurd hp (Nat.not_lt_zero _)⟩) (by omega)
        exact ⟨b, g1, g2⟩
      obtain ⟨a, a1, a2⟩ := hX
      have hM : ∀ t : ax_S, (∀ k, t.2.1 67 k &&& 255 = nI (B k)) → t.2.1 64 = s.2.1 64 → M_check_l28 70000 (nI n) 0 t = some (a, t) := by
        intro t t1 t2
        obtain ⟨b, g1, g2⟩ := z_for (fun m k (_ : Unit) => M_check_l28 m (nI n) (nI k) t) n (fun k _ => ∀ p, p < k → nI (B p) = s.2.1 64 (60 + p)) (fun b => b = (a, t)) (fun m _ ha => ⟨(-1, t), by
          show M_check_l28 (m + 1) (nI n) (nI n) t = some (-1, t)
          rw [M_check_l28]
          exact if_pos (Int32.le_refl _), by
          rcases a2 with ⟨rfl, -⟩ | ⟨p, p1, -, p2, -⟩
          · rfl
          · exact absurd (ha p p1) p2⟩) (fun m k _ hk ha => by
          show (∃ b, M_check_l28 (m + 1) (nI n) (nI k) t = some b ∧ _) ∨ ∃ _ : Unit, M_check_l28 (m + 1) (nI n) (nI k) t = M_check_l28 m (nI n) (nI (k + 1)) t ∧ _
          rw [M_check_l28, if_neg (by rw [z_le (by omega) (by omega)]; omega), MB t1 (by omega)]
          simp (disch := omega) only [q_60, nI_add, z_cl, z_lt0, z_nle, z_1, if_false, or_self]
          rw [t2]
          by_cases d : nI (B k) = s.2.1 64 (60 + k)
          · rw [if_pos d]
            refine Or.inr ⟨(), rfl, fun p hp => ?_⟩
            rcases Nat.lt_or_eq_of_le (Nat.lt_succ_iff.mp hp) with q | rfl
            · exact ha p q
            · exact d
          · rw [if_neg d]
            refine Or.inl ⟨_, rfl, ?_⟩
            rcases a2 with ⟨-, q⟩ | ⟨p, p1, rfl, p2, p3⟩
            · exact absurd (q k hk) d
            · have : p = k := by
                rcases Nat.lt_trichotomy p k with q | q | q
                · exact absurd (ha p q) p2
                · exact q
                · exact absurd (p3 k q) d
              subst this
              rfl) 70000 0 () (Nat.zero_le _) (fun p hp => absurd hp (Nat.not_lt_zero _)) (by omega)
        rw [g2] at g1
        exact g1
      refine ⟨a, XTa_clear s, ax_sI (XTa_clear s) 63 5 0, ?_, ?_, ?_⟩
      · unfold X_check
        rw [X_within_eq, if_neg h2, if_neg (by rw [X_holds_n hl (by omega) e1]; exact c), a1]
      · unfold M_check
        have e3 : (XTa_clear s).2.1 63 5 = nI l := by unfold XTa_clear; rw [r_I (by omega)]; exact e2
        rw [if_neg (show ¬ M_in (nI n) 0 16 (XTa_clear s) = 0 from h2), e3, if_pos (by rw [z_le (by omega) (by omega)]; omega), hM (ax_sI (XTa_clear s) 63 5 0) (fun k => by unfold XTa_clear; rw [r_I (by omega), r_I (by omega)]; exact eM k) (by unfold XTa_clear; rw [r_I (by omega), r_I (by omega)])]
      · unfold XTa_clear
        refine y_emp h (by rw [r_I (by omega), r_Ie, r_u]) (by rw [r_Ie, r_u]) fun c j k => r_two c j (by omega) (by omega)
