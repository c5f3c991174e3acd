/-! told: the call -/
theorem X_gl5 {s : ax_S} {l n m : Nat} {B : Nat → Nat} (hBB : ∀ k, B k < 256) (hl : l ≤ 260) (h : s.2.1 1 1 = nI l) (hX : ∀ k, k < l → s.2.1 2 k = nI (B k)) (hn : 2 * n + 2 * m ≤ l) (x3 x4 : Int32) : (XSh_guess_l5 70000 (nI n) (nI m) x3 x4 (nI (2 * n)) s = some (.inl ()) ∧ ∀ k, k < 2 * m → B (2 * n + k) < 16) ∨ (XSh_guess_l5 70000 (nI n) (nI m) x3 x4 (nI (2 * n)) s = some (.inr (-3)) ∧ ∃ k, k < 2 * m ∧ ¬ B (2 * n + k) < 16) := by
  obtain ⟨v, g1, g2⟩ := z_for (fun j k (_ : Unit) => XSh_guess_l5 j (nI n) (nI m) x3 x4 (nI (2 * n + k)) s) (2 * m) (fun k _ => ∀ i, i < k → B (2 * n + i) < 16) (fun v => (v = .inl () ∧ ∀ k, k < 2 * m → B (2 * n + k) < 16) ∨ (v = .inr (-3) ∧ ∃ k, k < 2 * m ∧ ¬ B (2 * n + k) < 16)) (fun j _ ha => ⟨.inl (), by
      show XSh_guess_l5 (j + 1) (nI n) (nI m) x3 x4 (nI (2 * n + 2 * m)) s = _
      rw [XSh_guess_l5, q_2, pk_mul, pk_mul, nI_add]
      exact if_pos (Int32.le_refl _), Or.inl ⟨rfl, ha⟩⟩) (fun j k _ hk ha => by
      show (∃ b, XSh_guess_l5 (j + 1) (nI n) (nI m) x3 x4 (nI (2 * n + k)) s = some b ∧ _) ∨ ∃ _ : Unit, XSh_guess_l5 (j + 1) (nI n) (nI m) x3 x4 (nI (2 * n + k)) s = XSh_guess_l5 j (nI n) (nI m) x3 x4 (nI (2 * n + (k + 1))) s ∧ _
      rw [XSh_guess_l5, q_2, pk_mul, pk_mul, nI_add, if_neg (by rw [z_le (by omega) (by omega)]; omega), XB hl h hX (show 2 * n + k < l by omega), z_1]
      have hb := hBB (2 * n + k)
      by_cases c : B (2 * n + k) < 16
      · have e : ¬ X_isPerson (nI (B (2 * n + k))) s = 0 := z_innX (x := 0) (s := s) 0 15 (by omega) (by omega) (Nat.zero_le _) (by omega)
        simp only [e, if_false]
        refine Or.inr ⟨(), rfl, fun i hi => ?_⟩
        rcases Nat.lt_or_eq_of_le (Nat.lt_succ_iff.mp hi) with q | rfl
        · exact ha i q
        · exact c
      · have e : X_isPerson (nI (B (2 * n + k))) s = 0 := by
          unfold X_isPerson X_isWithin
          rw [if_neg (nI_pos (by omega)), if_pos (by rw [q_15, z_lt (by omega) (by omega)]; omega)]
        simp only [e, if_true]
        exact Or.inl ⟨_, rfl, Or.inr ⟨rfl, k, hk, c⟩⟩) 70000 0 () (Nat.zero_le _) (fun i hi => absurd hi (Nat.not_lt_zero _)) (by omega)
  have g1 : XSh_guess_l5 70000 (nI n) (nI m) x3 x4 (nI (2 * n)) s = some v := g1
  rcases g2 with ⟨rfl, q⟩ | ⟨rfl, q⟩
  · exact Or.inl ⟨g1, q⟩
  · exact Or.inr ⟨g1, q⟩
theorem M_gl5 {s : ax_S} {n m : Nat} {B : Nat → Nat} (hBB : ∀ k, B k < 256) (hM : ∀ k, s.2.1 67 k &&& 255 = nI (B k)) (hn : n ≤ 12) (hm : m ≤ 10) (x3 x4 : Int32) : (M_told_l65 70000 (nI n) (nI m) x3 x4 0 s = some (.inl ()) ∧ ∀ k, k < 2 * m → B (2 * n + k) < 16) ∨ (M_told_l65 70000 (nI n) (nI m) x3 x4 0 s = some (.inr (-3, s)) ∧ ∃ k, k < 2 * m ∧ ¬ B (2 * n + k) < 16) := by
  obtain ⟨v, g1, g2⟩ := z_for (fun j k (_ : Unit) => M_told_l65 j (nI n) (nI m) x3 x4 (nI k) s) (2 * m) (fun k _ => ∀ i, i < k → B (2 * n + i) < 16) (fun v => (v = .inl () ∧ ∀ k, k < 2 * m → B (2 * n + k) < 16) ∨ (v = .inr (-3, s) ∧ ∃ k, k < 2 * m ∧ ¬ B (2 * n + k) < 16)) (fun j _ ha => ⟨.inl (), by
      show M_told_l65 (j + 1) (nI n) (nI m) x3 x4 (nI (2 * m)) s = _
      rw [M_told_l65, q_2, pk_mul]
      exact if_pos (Int32.le_refl _), Or.inl ⟨rfl, ha⟩⟩) (fun j k _ hk ha => by
      show (∃ b, M_told_l65 (j + 1) (nI n) (nI m) x3 x4 (nI k) s = some b ∧ _) ∨ ∃ _ : Unit, M_told_l65 (j + 1) (nI n) (nI m) x3 x4 (nI k) s = M_told_l65 j (nI n) (nI m) x3 x4 (nI (k + 1)) s ∧ _
      have hb := hBB (2 * n + k)
      rw [M_told_l65, q_2, pk_mul, pk_mul, nI_add, if_neg (by rw [z_le (by omega) (by omega)]; omega), MB hM (by omega), z_1]
      simp only [q_15, z_le (show B (2 * n + k) < 2147483648 by omega) (show 15 < 2147483648 by omega)]
      by_cases c : B (2 * n + k) ≤ 15
      · rw [if_pos c]
        refine Or.inr ⟨(), rfl, fun i hi => ?_⟩
        rcases Nat.lt_or_eq_of_le (Nat.lt_succ_iff.mp hi) with q | rfl
        · exact ha i q
        · omega
      · rw [if_neg c]
        exact Or.inl ⟨_, rfl, Or.inr ⟨rfl, k, hk, by omega⟩⟩) 70000 0 () (Nat.zero_le _) (fun i hi => absurd hi (Nat.not_lt_zero _)) (by omega)
  have g1 : M_told_l65 70000 (nI n) (nI m) x3 x4 0 s = some v := g1
  rcases g2 with ⟨rfl, q⟩ | ⟨rfl, q⟩
  · exact Or.inl ⟨g1, q⟩
  · exact Or.inr ⟨g1, q⟩
/-- who could be still -/
def td_co (B : Nat → Nat) (P : Nat) : Nat → Nat
  | 0 => P
  | k + 1 => x_sub (td_co B P k) (256 * B (2 * k) + B (2 * k + 1))
theorem td_colt (B : Nat → Nat) {P : Nat} (hP : P < 65536) : ∀ n, td_co B P n < 65536
  | 0 => hP
  | n + 1 => x_sublt (td_colt B hP n) _
theorem td_or8 {a b : Nat} (hb : b < 256) : a * 2 ^ 8 ||| b = 256 * a + b := by
  rw [Nat.mul_comm, ← Nat.two_pow_add_eq_or_of_lt (show b < 2 ^ 8 from hb)]
theorem X_gl47 {s : ax_S} {l n P : Nat} {B : Nat → Nat} (hBB : ∀ k, B k < 256) (hl : l ≤ 260) (h : s.2.1 1 1 = nI l) (hX : ∀ k, k < l → s.2.1 2 k = nI (B k)) (hn : 2 * n ≤ l) (hP : P < 65536) (x2 x4 : Int32) : XSh_guess_l47 70000 (nI n) x2 x4 (nI P) 0 s = some (nI (td_co B P n)) := by
  obtain ⟨v, g1, g2⟩ := z_for (fun j k (a : Int32) => XSh_guess_l47 j (nI n) x2 x4 a (nI k) s) n (fun k a => a = nI (td_co B P k)) (fun a => a = nI (td_co B P n)) (fun j a ha => ⟨a, by
      show XSh_guess_l47 (j + 1) (nI n) x2 x4 a (nI n) s = some a
      rw [XSh_guess_l47]
      exact if_pos (Int32.le_refl _), ha⟩) (fun j k a hk ha => Or.inr ⟨nI (td_co B P (k + 1)), by
      show XSh_guess_l47 (j + 1) (nI n) x2 x4 a (nI k) s = XSh_guess_l47 j (nI n) x2 x4 (nI (td_co B P (k + 1))) (nI (k + 1)) s
      have b1 := hBB (2 * k)
      have b2 := hBB (2 * k + 1)
      rw [XSh_guess_l47, q_2, pk_mul, if_neg (by rw [z_le (by omega) (by omega)]; omega), z_1, z_1, XB hl h hX (show 2 * k < l by omega), XB hl h hX (show 2 * k + 1 < l by omega), ha]
      show XSh_guess_l47 j (nI n) x2 x4 (nI (td_co B P k) &&& (((nI (B (2 * k)) <<< ((8 : Int32) &&& 31)) ||| nI (B (2 * k + 1))) ^^^ (-1))) (nI (k + 1)) s = _
      rw [pk_shlN ((8 : Int32) &&& 31) 8 (by decide) (show B (2 * k) * 2 ^ 8 < 2 ^ 32 by omega), x_or, td_or8 b2, x_not (td_colt B hP k)]
      rfl, rfl⟩) 70000 0 (nI P) (Nat.zero_le _) rfl (by omega)
  rw [g2] at g1
  exact g1
theorem M_gl47 {s : ax_S} {n P : Nat} {B : Nat → Nat} (hM : ∀ k, s.2.1 67 k &&& 255 = nI (B k)) (hn : n ≤ 12) (hP : P < 65536) (x2 x4 : Int32) : M_told_l103 70000 (nI n) x2 x4 (nI P) 0 s = some (nI (td_co B P n)) := by
  obtain ⟨v, g1, g2⟩ := z_for (fun j k (a : Int32) => M_told_l103 j (nI n) x2 x4 a (nI k) s) n (fun k a => a = nI (td_co B P k)) (fun a => a = nI (td_co B P n)) (fun j a ha => ⟨a, by
      show M_told_l103 (j + 1) (nI n) x2 x4 a (nI n) s = some a
      rw [M_told_l103]
      exact if_pos (Int32.le_refl _), ha⟩) (fun j k a hk ha => Or.inr ⟨nI (td_co B P (k + 1)), by
      show M_told_l103 (j + 1) (nI n) x2 x4 a (nI k) s = M_told_l103 j (nI n) x2 x4 (nI (td_co B P (k + 1))) (nI (k + 1)) s
      rw [M_told_l103, q_2, pk_mul, if_neg (by rw [z_le (by omega) (by omega)]; omega), z_1, z_1, MB hM (by omega), MB hM (by omega), ha]
      show M_told_l103 j (nI n) x2 x4 (nI (td_co B P k) &&& (((256 : Int32) * nI (B (2 * k)) + nI (B (2 * k + 1))) ^^^ (-1))) (nI (k + 1)) s = _
      rw [q_256, pk_mul, nI_add, x_not (td_colt B hP k)]
      rfl, rfl⟩) 70000 0 (nI P) (Nat.zero_le _) rfl (by omega)
  rw [g2] at g1
  exact g1
theorem y_told (x y p w : Int32) (s : ax_S) (h : y_inv s.2.1) : y_sim (X_told x y p w) (M_told x y p w) s := by
  rcases z_inX (x := x) (s := s) 1 12 (by omega) (by omega) with h1 | ⟨h1, n, hn1, hn, rfl⟩
  · have h1 : M_in x 1 12 s = 0 := h1
    exact y_same h (-1) (by unfold X_told; rw [X_within_eq, if_pos h1]) (by unfold M_told; rw [if_pos h1])
  have a1 : ∀ t, ¬ M_in (nI n) 1 12 t = 0 := fun t => z_innX (x := 0) 1 12 (by omega) (by omega) hn1 hn
  rcases z_inX (x := y) (s := s) 0 10 (by omega) (by omega) with h2 | ⟨h2, m, -, hm, rfl⟩
  · have h2 : M_in y 0 10 s = 0 := h2
    exact y_same h (-1) (by unfold X_told; rw [X_within_eq, if_neg (a1 s), X_within_eq, if_pos h2]) (by unfold M_told; rw [if_neg (a1 s), if_pos h2])
  have a2 : ∀ t, ¬ M_in (nI m) 0 10 t = 0 := fun t => z_innX (x := 0) 0 10 (by omega) (by omega) (Nat.zero_le _) hm
  rcases z_inX (x := p) (s := s) 0 65535 (by omega) (by omega) with h3 | ⟨h3, P, -, hP, rfl⟩
  · have h3 : M_in p 0 65535 s = 0 := h3
    exact y_same h (-1) (by unfold X_told X_arePersons; rw [X_within_eq, if_neg (a1 s), X_within_eq, if_neg (a2 s), X_within_eq, if_pos h3]) (by unfold M_told; rw [if_neg (a1 s), if_neg (a2 s), if_pos h3])
  have a3 : ∀ t, ¬ M_in (nI P) 0 65535 t = 0 := fun t => z_innX (x := 0) 0 65535 (by omega) (by omega) (Nat.zero_le _) hP
  rcases z_inX (x := w) (s := s) 0 2 (by omega) (by omega) with h4 | ⟨h4, k, -, hk, rfl⟩
  · have h4 : M_in w 0 2 s = 0 := h4
    exact y_same h (-1) (by unfold X_told X_arePersons; rw [X_within_eq, if_neg (a1 s), X_within_eq, if_neg (a2 s), X_within_eq, if_neg (a3 s), X_within_eq, if_pos h4]) (by unfold M_told; rw [if_neg (a1 s), if_neg (a2 s), if_neg (a3 s), if_pos h4])
  have a4 : ∀ t, ¬ M_in (nI k) 0 2 t = 0 := fun t => z_innX (x := 0) 0 2 (by omega) (by omega) (Nat.zero_le _) hk
  obtain ⟨l, B, hl, e1, e2, eB, eX, eM⟩ := y_tpB h.2.2.2.1
  have esum : (2 : Int32) * nI n + (2 : Int32) * nI m = nI (2 * n + 2 * m) := by rw [q_2, pk_mul, pk_mul, nI_add]
  by_cases c : l < 2 * n + 2 * m
  · exact y_same h (-1) (by unfold X_told X_arePersons; rw [X_within_eq, if_neg (a1 s), X_within_eq, if_neg (a2 s), X_within_eq, if_neg (a3 s), X_within_eq, if_neg (a4 s), esum, if_pos (by rw [X_holds_n hl (by omega) e1]; exact c)]) (by unfold M_told; rw [if_neg (a1 s), if_neg (a2 s), if_neg (a3 s), if_neg (a4 s), esum, e2, if_neg (by rw [z_le (by omega) (by omega)]; omega)])
  have m1 : (XTa_clear s).2.1 63 5 = nI l := by unfold XTa_clear; rw [r_I (by omega)]; exact e2
  have mM : ∀ k, (ax_sI (XTa_clear s) 63 5 0).2.1 67 k &&& 255 = nI (B k) := fun k => by unfold XTa_clear; rw [r_I (by omega), r_I (by omega)]; exact eM k
  have hmm : nI (2 * n + 2 * m) ≤ nI l := by rw [z_le (by omega) (by omega)]; omega
  have e2n : (2 : Int32) * nI n = nI (2 * n) := by rw [q_2, pk_mul]
  have XE : ∀ v, XSh_guess (nI n) (nI m) (nI P) (nI k) s = some v → X_told (nI n) (nI m) (nI P) (nI k) s = some (v, XTa_clear s) := fun v hv => by
    unfold X_told X_arePersons
    rw [X_within_eq, if_neg (a1 s), X_within_eq, if_neg (a2 s), X_within_eq, if_neg (a3 s), X_within_eq, if_neg (a4 s), esum, if_neg (by rw [X_holds_n hl (by omega) e1]; exact c), hv]
  rcases X_gl5 eB hl e1 eX (show 2 * n + 2 * m ≤ l by omega) (nI P) (nI k) with ⟨p1, p2⟩ | ⟨p1, p2⟩
  · rcases M_gl5 eB mM hn hm (nI P) (nI k) with ⟨q1, q2⟩ | ⟨q1, q2⟩
    · have hBm : ∀ i, i < m → B (2 * n + 2 * i) < 16 ∧ B (2 * n + 2 * i + 1) < 16 := fun i hi => ⟨p2 (2 * i) (by omega), p2 (2 * i + 1) (by omega)⟩
      have r1 := X_gl47 eB hl e1 eX (show 2 * n ≤ l by omega) (show P < 65536 by omega) (nI m) (nI k)
      have r2 := M_gl47 mM hn (show P < 65536 by omega) (nI m) (nI k)
      have hcl := td_colt B (show P < 65536 by omega) n
      obtain ⟨b, b1, b2⟩ := X_few_eq (could := td_co B P n) hl e1 eX (show 2 * n + 2 * m ≤ l by omega) hm hBm
      obtain ⟨b', b3, b4⟩ := M_few_eq (could := td_co B P n) mM hn hm hcl hBm (nI k)
      obtain rfl := td_meet hBm b2 b4
      have hlt : ∀ c, b = some c → c < 65536 := fun c hc => (b4.1 c hc).2
      have hk3 : k = 0 ∨ k = 1 ∨ k = 2 := by omega
      rcases hk3 with rfl | rfl | rfl
      · refine ⟨nI (td_co B P n), XTa_clear s, ax_sI (XTa_clear s) 63 5 0, XE _ ?_, ?_, y_clr h⟩
        · unfold XSh_guess
          rw [e2n, p1]
          simp only [r1]
          rfl
        · unfold M_told
          rw [if_neg (a1 _), if_neg (a2 _), if_neg (a3 _), if_neg (a4 _), esum, m1, if_pos hmm, q1]
          simp only [r2]
          rfl
      · cases b with
        | none =>
          refine ⟨-2, XTa_clear s, ax_sI (XTa_clear s) 63 5 0, XE _ ?_, ?_, y_clr h⟩
          · unfold XSh_guess
            rw [e2n, p1]
            simp only [r1, b1]
            rfl
          · unfold M_told
            rw [if_neg (a1 _), if_neg (a2 _), if_neg (a3 _), if_neg (a4 _), esum, m1, if_pos hmm, q1]
            simp only [r2, b3]
            rfl
        | some v =>
          have hne : ¬ of_e (some v) = -2 := by rw [of_e_lt hlt]; simp
          refine ⟨nI (x_pop v), XTa_clear s, ax_sI (XTa_clear s) 63 5 0, XE _ ?_, ?_, y_clr h⟩
          · unfold XSh_guess
            rw [e2n, p1]
            simp only [r1, b1]
            rw [if_neg (show ¬ nI 1 = 0 by decide), if_pos (show nI 1 = 1 from rfl), if_neg hne, show of_e (some v) = nI v from rfl, x_bc (hlt v rfl)]
          · unfold M_told
            rw [if_neg (a1 _), if_neg (a2 _), if_neg (a3 _), if_neg (a4 _), esum, m1, if_pos hmm, q1]
            simp only [r2, b3]
            rw [if_neg (show ¬ nI 1 = 0 by decide), if_neg (show ¬ nI 1 = (2 : Int32) by decide), if_neg hne, show of_e (some v) = nI v from rfl, M_bits_eq (hlt v rfl)]
      · refine ⟨of_e b, XTa_clear s, ax_sI (XTa_clear s) 63 5 0, XE _ ?_, ?_, y_clr h⟩
        · unfold XSh_guess
          rw [e2n, p1]
          simp only [r1, b1]
          rw [if_neg (show ¬ nI 2 = 0 by decide), if_neg (show ¬ nI 2 = (1 : Int32) by decide)]
        · unfold M_told
          rw [if_neg (a1 _), if_neg (a2 _), if_neg (a3 _), if_neg (a4 _), esum, m1, if_pos hmm, q1]
          simp only [r2, b3]
          rw [if_neg (show ¬ nI 2 = 0 by decide), if_pos (show nI 2 = (2 : Int32) from rfl)]
    · obtain ⟨i, i1, i2⟩ := q2
      exact absurd (p2 i i1) i2
  · rcases M_gl5 eB mM hn hm (nI P) (nI k) with ⟨q1, q2⟩ | ⟨q1, q2⟩
    · obtain ⟨i, i1, i2⟩ := p2
      exact absurd (q2 i i1) i2
    · refine ⟨-3, XTa_clear s, ax_sI (XTa_clear s) 63 5 0, XE _ ?_, ?_, y_clr h⟩
      · unfold XSh_guess
        rw [e2n, p1]
      · unfold M_told
        rw [if_neg (a1 _), if_neg (a2 _), if_neg (a3 _), if_neg (a4 _), esum, m1, if_pos hmm, q1]
