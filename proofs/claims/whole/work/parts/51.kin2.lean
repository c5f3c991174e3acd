/-! kin: the least closed set; groups; who holds -/
/-- closed under touching among A -/
def kc_cl (F : z_V) (A : Nat) (m : Nat) : Prop := ∀ q, m.testBit q = true → ∀ r, (k_tb F q).testBit r = true → A.testBit r = true → m.testBit r = true
def kc_in (a b : Nat) : Prop := ∀ i, a.testBit i = true → b.testBit i = true
def kc_K (F : z_V) (A p m : Nat) : Prop := m < 65536 ∧ m.testBit p = true ∧ kc_cl F A m ∧ ∀ c, c < 65536 → c.testBit p = true → kc_cl F A c → kc_in m c
theorem kc_uniq {F : z_V} {A p m m' : Nat} (h : kc_K F A p m) (h' : kc_K F A p m') : m = m' := x_ext h.1 h'.1 fun i _ => by
  have h1 := h.2.2.2 m' h'.1 h'.2.1 h'.2.2.1 i
  have h2 := h'.2.2.2 m h.1 h.2.1 h.2.2.1 i
  revert h1 h2
  cases m.testBit i <;> cases m'.testBit i <;> simp
/-- what holds of every set on the way -/
def kc_W (F : z_V) (A p g : Nat) : Prop := g < 65536 ∧ g.testBit p = true ∧ ∀ c, c < 65536 → c.testBit p = true → kc_cl F A c → kc_in g c
theorem kc_step {F : z_V} (hv : v_val F) {A p g q : Nat} (hA : A < 65536) (h : kc_W F A p g) (hq : g.testBit q = true) : kc_W F A p (g ||| (k_tb F q &&& A)) := by
  refine ⟨x_orlt h.1 (Nat.lt_of_le_of_lt Nat.and_le_right hA), by rw [Nat.testBit_or, h.2.1]; rfl, fun c c1 c2 c3 i hi => ?_⟩
  rw [Nat.testBit_or, Nat.testBit_and, Bool.or_eq_true, Bool.and_eq_true] at hi
  rcases hi with hi | ⟨hi, hi2⟩
  · exact h.2.2 c c1 c2 c3 i hi
  · exact c3 q (h.2.2 c c1 c2 c3 q hq) i hi hi2
theorem kc_pop {a b : Nat} (h : kc_in a b) (hne : a ≠ b) (ha : a < 65536) (hb : b < 65536) : x_pop a + 1 ≤ x_pop b := by
  obtain ⟨i, hi, h1, h2⟩ : ∃ i, i < 16 ∧ a.testBit i = false ∧ b.testBit i = true := by
    apply Classical.byContradiction
    intro hn
    refine hne (x_ext ha hb fun i hi => ?_)
    cases h1 : a.testBit i with
    | true => rw [h i h1]
    | false =>
      cases h2 : b.testBit i with
      | false => rfl
      | true => exact absurd ⟨i, hi, h1, h2⟩ hn
  have e : x_pop a + 1 = fb_ct (fun k => if k = i then true else a.testBit k) 16 := by
    have := fb_ct_upd (fun k => a.testBit k) true (i := i) (n := 16) hi
    rw [h1] at this
    unfold x_pop
    simpa using this.symm
  rw [e]
  exact fb_ct_sub fun k _ hk => by
    by_cases ek : k = i
    · rw [ek]; exact h2
    · rw [if_neg ek] at hk; exact h k hk
def kc_rw (F : z_V) (s : ax_S) : Prop := ∀ p, p < 16 → s.2.1 58 p = nI (k_tb F p)
/-- one round of the class -/
theorem X_round {s : ax_S} {F : z_V} (hv : v_val F) (hr : kc_rw F s) {A p g : Nat} (hA : A < 65536) (hW : kc_W F A p g) (x4 x5 : Int32) : ∃ g', XKi_groupOf_l40 70000 (nI A) (nI g) x4 x5 0 s = some (nI g') ∧ kc_W F A p g' ∧ kc_in g g' ∧ ∀ q, g.testBit q = true → ∀ r, (k_tb F q).testBit r = true → A.testBit r = true → g'.testBit r = true := by
  obtain ⟨b, h1, h2⟩ := z_for (fun n k (m : Nat) => XKi_groupOf_l40 n (nI A) (nI m) x4 x5 (nI k) s) 16 (fun k m => kc_W F A p m ∧ kc_in g m ∧ ∀ q, q < k → g.testBit q = true → ∀ r, (k_tb F q).testBit r = true → A.testBit r = true → m.testBit r = true) (fun v => ∃ g', v = nI g' ∧ kc_W F A p g' ∧ kc_in g g' ∧ ∀ q, g.testBit q = true → ∀ r, (k_tb F q).testBit r = true → A.testBit r = true → g'.testBit r = true) (fun n m h => ⟨nI m, by
      show XKi_groupOf_l40 (n + 1) (nI A) (nI m) x4 x5 (nI 16) s = some (nI m)
      rw [XKi_groupOf_l40]
      exact if_pos (by decide), m, rfl, h.1, h.2.1, fun q hq => h.2.2 q (by
      rcases Nat.lt_or_ge q 16 with c | c
      · exact c
      · rw [x_lt (m := 16) hW.1 c] at hq; cases hq) hq⟩) (fun n k m hk h => Or.inr (by
      show ∃ m', XKi_groupOf_l40 (n + 1) (nI A) (nI m) x4 x5 (nI k) s = XKi_groupOf_l40 n (nI A) (nI m') x4 x5 (nI (k + 1)) s ∧ _
      have hm := h.1.1
      rw [XKi_groupOf_l40]
      simp (disch := omega) only [q_16, z_le, z_nle, z_cl, z_lt0, z_1, if_false, or_self]
      simp only [x_has (show m < 2147483648 by omega) (show k < 32 by omega)]
      by_cases c : m.testBit k = true
      · rw [if_pos c, hr k hk, nx_and, x_or]
        refine ⟨_, rfl, kc_step hv hA h.1 c, fun i hi => by rw [Nat.testBit_or, h.2.1 i hi]; rfl, fun q hq gq r hr1 hr2 => ?_⟩
        rw [Nat.testBit_or, Bool.or_eq_true]
        by_cases e : q = k
        · subst e
          exact Or.inr (by rw [Nat.testBit_and, hr1, hr2]; rfl)
        · exact Or.inl (h.2.2 q (by omega) gq r hr1 hr2)
      · rw [if_neg c]
        refine ⟨m, rfl, h.1, h.2.1, fun q hq gq r hr1 hr2 => ?_⟩
        by_cases e : q = k
        · subst e; exact absurd (h.2.1 q gq) c
        · exact h.2.2 q (by omega) gq r hr1 hr2)) 70000 0 g (by omega) ⟨hW, fun i hi => hi, fun q hq => absurd hq (Nat.not_lt_zero _)⟩ (by omega)
  obtain ⟨g', rfl, g2⟩ := h2
  exact ⟨g', h1, g2⟩
theorem kc_W0 (F : z_V) (A : Nat) {p : Nat} (hp : p < 16) : kc_W F A p (2 ^ p) := ⟨x_plt hp, by rw [x_pow]; simp, fun c _ h _ i hi => by
  rw [x_pow] at hi
  rw [← of_decide_eq_true hi]
  exact h⟩
theorem X_group_eq {s : ax_S} {F : z_V} (hv : v_val F) (hr : kc_rw F s) {A p : Nat} (hA : A < 65536) (hp : p < 16) (hpA : A.testBit p = true) : ∃ m, XKi_groupOf (nI p) (nI A) s = some (nI m) ∧ kc_K F A p m := by
  unfold XKi_groupOf
  rw [if_neg (show ¬ X_isPerson (nI p) s = 0 from z_innX (x := 0) (s := s) 0 15 (by omega) (by omega) (Nat.zero_le _) (by omega)), x_shl p (by omega), nx_and]
  have e0 : 2 ^ p &&& A = 2 ^ p := by
    apply Nat.eq_of_testBit_eq
    intro i
    rw [Nat.testBit_and, x_pow]
    by_cases c : p = i
    · subst c; simp [hpA]
    · simp [c]
  rw [e0]
  have hpos : 2 ^ p ≠ 0 := by have := Nat.one_le_two_pow (n := p); omega
  have hpop : ∀ m, m < 65536 → m.testBit p = true → 1 ≤ x_pop m := fun m _ h => fb_ct_pos.mpr ⟨p, hp, h⟩
  obtain ⟨b, h1, h2⟩ := z_for (fun n k (a : Nat × Nat) => XKi_groupOf_l21 n (nI A) (nI a.1) (nI a.2) (nI k) s) 16 (fun k a => kc_W F A p a.1 ∧ a.2 < 65536 ∧ (a.1 = a.2 → kc_cl F A a.1) ∧ (a.1 ≠ a.2 → k + 1 ≤ x_pop a.1)) (fun v => ∃ m, v = nI m ∧ kc_K F A p m) (fun n a h => ⟨nI a.1, by
      show XKi_groupOf_l21 (n + 1) (nI A) (nI a.1) (nI a.2) (nI 16) s = some (nI a.1)
      rw [XKi_groupOf_l21]
      exact if_pos (by decide), a.1, rfl, by
      have hc : a.1 = a.2 := by
        apply Classical.byContradiction
        intro hne
        have h1 := h.2.2.2 hne
        have h2 : x_pop a.1 ≤ 16 := fb_ct_le _ _
        omega
      exact ⟨h.1.1, h.1.2.1, h.2.2.1 hc, h.1.2.2⟩⟩) (fun n k a hk h => by
      obtain ⟨g, bf⟩ := a
      obtain ⟨i1, i2, i3, i4⟩ := h
      dsimp only at i1 i2 i3 i4
      show (∃ b, XKi_groupOf_l21 (n + 1) (nI A) (nI g) (nI bf) (nI k) s = some b ∧ _) ∨ ∃ a' : Nat × Nat, XKi_groupOf_l21 (n + 1) (nI A) (nI g) (nI bf) (nI k) s = XKi_groupOf_l21 n (nI A) (nI a'.1) (nI a'.2) (nI (k + 1)) s ∧ _
      have hg := i1.1
      rw [XKi_groupOf_l21]
      simp (disch := omega) only [q_16, z_le, z_nle, z_1, if_false]
      simp only [z_eq (show g < 2147483648 by omega) (show bf < 2147483648 by omega)]
      by_cases c : g = bf
      · rw [if_pos c]
        exact Or.inl ⟨_, rfl, g, rfl, i1.1, i1.2.1, i3 c, i1.2.2⟩
      · rw [if_neg c]
        obtain ⟨g', e1, e2, e3, e4⟩ := X_round hv hr hA i1 (nI g) (nI k)
        refine Or.inr ⟨(g', g), by rw [e1], e2, hg, fun e => ?_, fun e => ?_⟩
        · have e : g' = g := e
          show kc_cl F A g'
          rw [e] at e4 ⊢
          exact e4
        · have e : g' ≠ g := e
          have := kc_pop e3 (fun q => e q.symm) hg e2.1
          have := i4 c
          show k + 1 + 1 ≤ x_pop g'
          omega) 70000 0 (2 ^ p, 0) (by omega) ⟨kc_W0 F A hp, by show 0 < 65536; omega, fun e => absurd e hpos, fun _ => hpop _ (x_plt hp) (by rw [x_pow]; simp)⟩ (by omega)
  have h1 : XKi_groupOf_l21 70000 (nI A) (nI (2 ^ p)) 0 0 s = some b := h1
  obtain ⟨m, rfl, g⟩ := h2
  exact ⟨m, by rw [h1], g⟩
theorem M_round {s : ax_S} {F : z_V} (ha : v_aM s.2.1 F) (hv : v_val F) {A p g : Nat} (hA : A < 65536) (hW : kc_W F A p g) : ∃ g', M_kinOf_l19 70000 (nI A) (nI g) (nI g) 0 s = some (nI g') ∧ kc_W F A p g' ∧ kc_in g g' ∧ ∀ q, g.testBit q = true → ∀ r, (k_tb F q).testBit r = true → A.testBit r = true → g'.testBit r = true := by
  have hg := hW.1
  obtain ⟨b, h1, h2⟩ := z_for (fun n k (m : Nat) => M_kinOf_l19 n (nI A) (nI m) (nI g) (nI k) s) 16 (fun k m => kc_W F A p m ∧ kc_in g m ∧ ∀ q, q < k → g.testBit q = true → ∀ r, (k_tb F q).testBit r = true → A.testBit r = true → m.testBit r = true) (fun v => ∃ g', v = nI g' ∧ kc_W F A p g' ∧ kc_in g g' ∧ ∀ q, g.testBit q = true → ∀ r, (k_tb F q).testBit r = true → A.testBit r = true → g'.testBit r = true) (fun n m h => ⟨nI m, by
      show M_kinOf_l19 (n + 1) (nI A) (nI m) (nI g) (nI 16) s = some (nI m)
      rw [M_kinOf_l19]
      exact if_pos (by decide), m, rfl, h.1, h.2.1, fun q hq => h.2.2 q (by
      rcases Nat.lt_or_ge q 16 with c | c
      · exact c
      · rw [x_lt (m := 16) hW.1 c] at hq; cases hq) hq⟩) (fun n k m hk h => Or.inr (by
      show ∃ m', M_kinOf_l19 (n + 1) (nI A) (nI m) (nI g) (nI k) s = M_kinOf_l19 n (nI A) (nI m') (nI g) (nI (k + 1)) s ∧ _
      rw [M_kinOf_l19]
      simp (disch := omega) only [q_16, z_le, z_nle, z_1, if_false]
      simp only [M_has_eq (show g < 2147483648 by omega) (show k < 32 by omega)]
      by_cases c : g.testBit k = false
      · rw [if_pos c]
        refine ⟨m, rfl, h.1, h.2.1, fun q hq gq r hr1 hr2 => ?_⟩
        by_cases e : q = k
        · subst e; rw [c] at gq; cases gq
        · exact h.2.2 q (by omega) gq r hr1 hr2
      · rw [if_neg c, M_tb_eq ha hv hk]
        simp only []
        rw [nx_and, x_or]
        have ck : g.testBit k = true := by simpa using c
        refine ⟨_, rfl, kc_step hv hA h.1 (h.2.1 k ck), fun i hi => by rw [Nat.testBit_or, h.2.1 i hi]; rfl, fun q hq gq r hr1 hr2 => ?_⟩
        rw [Nat.testBit_or, Bool.or_eq_true]
        by_cases e : q = k
        · subst e
          exact Or.inr (by rw [Nat.testBit_and, hr1, hr2]; rfl)
        · exact Or.inl (h.2.2 q (by omega) gq r hr1 hr2))) 70000 0 g (by omega) ⟨hW, fun i hi => hi, fun q hq => absurd hq (Nat.not_lt_zero _)⟩ (by omega)
  obtain ⟨g', rfl, g2⟩ := h2
  exact ⟨g', h1, g2⟩
theorem M_kin_eq {s : ax_S} {F : z_V} (ha : v_aM s.2.1 F) (hv : v_val F) {A p : Nat} (hA : A < 65536) (hp : p < 16) : ∃ m, M_kinOf (nI p) (nI A) s = some (nI m) ∧ kc_K F A p m := by
  unfold M_kinOf
  rw [x_shl p (by omega)]
  have hpos : 2 ^ p ≠ 0 := by have := Nat.one_le_two_pow (n := p); omega
  obtain ⟨b, h1, h2⟩ := z_while (fun n (a : Nat × Nat) => M_kinOf_l7 n (nI A) (nI a.1) (nI a.2) s) (fun a => kc_W F A p a.1 ∧ a.2 < 65536 ∧ (a.1 = a.2 → kc_cl F A a.1)) (fun a => 2 * (17 - x_pop a.1) + (if a.1 = a.2 then 0 else 1)) (fun v => ∃ m, v = nI m ∧ kc_K F A p m) (fun n a h => by
      obtain ⟨g, bf⟩ := a
      obtain ⟨i1, i2, i3⟩ := h
      dsimp only at i1 i2 i3
      show (∃ b, M_kinOf_l7 (n + 1) (nI A) (nI g) (nI bf) s = some b ∧ _) ∨ ∃ a' : Nat × Nat, M_kinOf_l7 (n + 1) (nI A) (nI g) (nI bf) s = M_kinOf_l7 n (nI A) (nI a'.1) (nI a'.2) s ∧ _
      have hg := i1.1
      rw [M_kinOf_l7]
      simp only [z_eq (show g < 2147483648 by omega) (show bf < 2147483648 by omega)]
      by_cases c : g = bf
      · rw [if_pos c]
        exact Or.inl ⟨_, rfl, g, rfl, i1.1, i1.2.1, i3 c, i1.2.2⟩
      · rw [if_neg c]
        obtain ⟨g', e1, e2, e3, e4⟩ := M_round ha hv hA i1
        refine Or.inr ⟨(g', g), by rw [e1], ⟨e2, hg, fun e => ?_⟩, ?_⟩
        · have e : g' = g := e
          show kc_cl F A g'
          rw [e] at e4 ⊢
          exact e4
        · have p1 : x_pop g ≤ 16 := fb_ct_le _ _
          have p2 : x_pop g' ≤ 16 := fb_ct_le _ _
          dsimp only
          rw [if_neg c]
          by_cases e : g' = g
          · rw [if_pos e, e]; omega
          · have := kc_pop e3 (fun q => e q.symm) hg e2.1
            rw [if_neg e]
            omega) 70000 (2 ^ p, 0) ⟨kc_W0 F A hp, by show 0 < 65536; omega, fun e => absurd e hpos⟩ (by dsimp only; split <;> omega)
  have h1 : M_kinOf_l7 70000 (nI A) (nI (2 ^ p)) 0 s = some b := h1
  obtain ⟨m, rfl, g⟩ := h2
  exact ⟨m, by rw [h1], g⟩
/-! groups -/
def kc_g (X : Nat → Nat) : Nat → Nat × Nat → Nat × Nat := z_it (fun j (a : Nat × Nat) => if a.1.testBit j = true then (x_sub a.1 (X j), a.2 + 1) else a)
theorem kc_g_lt (X : Nat → Nat) {A : Nat} (hA : A < 65536) : ∀ k, (kc_g X k (A, 0)).1 < 65536 ∧ kc_in (kc_g X k (A, 0)).1 A ∧ (kc_g X k (A, 0)).2 ≤ k
  | 0 => ⟨hA, fun i h => h, Nat.le_refl _⟩
  | k + 1 => by
    obtain ⟨h1, h2, h3⟩ := kc_g_lt X hA k
    have e : kc_g X (k + 1) (A, 0) = (if (kc_g X k (A, 0)).1.testBit k = true then (x_sub (kc_g X k (A, 0)).1 (X k), (kc_g X k (A, 0)).2 + 1) else kc_g X k (A, 0)) := rfl
    rw [e]
    by_cases c : (kc_g X k (A, 0)).1.testBit k = true
    · rw [if_pos c]
      refine ⟨x_sublt h1 _, fun i hi => ?_, by dsimp only; omega⟩
      rw [x_tsub h1, Bool.and_eq_true] at hi
      exact h2 i hi.1
    · rw [if_neg c]
      exact ⟨h1, h2, by omega⟩
theorem X_groups_eq {s : ax_S} {F : z_V} (hv : v_val F) (hr : kc_rw F s) {A : Nat} (hA : A < 65536) {X : Nat → Nat} (hX : ∀ p, p < 16 → A.testBit p = true → kc_K F A p (X p)) : XKi_groups (nI A) s = some (nI (kc_g X 16 (A, 0)).2) := by
  unfold XKi_groups
  obtain ⟨b, h1, h2⟩ := z_for (fun n k (a : Nat × Nat) => XKi_groups_l7 n (nI A) (nI a.2) (nI a.1) (nI k) s) 16 (fun k a => a = kc_g X k (A, 0)) (fun v => v = nI (kc_g X 16 (A, 0)).2) (fun n a h => ⟨nI a.2, by
      show XKi_groups_l7 (n + 1) (nI A) (nI a.2) (nI a.1) (nI 16) s = some (nI a.2)
      rw [XKi_groups_l7]
      exact if_pos (by decide), by rw [h]⟩) (fun n k a hk h => Or.inr ⟨kc_g X (k + 1) (A, 0), by
      obtain ⟨c1, c2, c3⟩ := kc_g_lt X hA k
      rw [← h] at c1 c2 c3
      have e : kc_g X (k + 1) (A, 0) = (if a.1.testBit k = true then (x_sub a.1 (X k), a.2 + 1) else a) := by rw [h]; rfl
      rw [e]
      show XKi_groups_l7 (n + 1) (nI A) (nI a.2) (nI a.1) (nI k) s = _
      rw [XKi_groups_l7]
      simp (disch := omega) only [q_16, z_le, z_nle, z_1, if_false]
      simp only [x_has (show a.1 < 2147483648 by omega) (show k < 32 by omega)]
      by_cases c : a.1.testBit k = true
      · rw [if_pos c, if_pos c]
        obtain ⟨m, g1, g2⟩ := X_group_eq hv hr hA hk (c2 k c)
        rw [g1, kc_uniq g2 (hX k hk (c2 k c))]
        simp only []
        rw [x_not c1]
      · rw [if_neg c, if_neg c], rfl⟩) 70000 0 (A, 0) (by omega) rfl (by omega)
  have h1 : XKi_groups_l7 70000 (nI A) 0 (nI A) 0 s = some b := h1
  rw [h1, h2]
theorem M_groups_eq {s : ax_S} {F : z_V} (ha : v_aM s.2.1 F) (hv : v_val F) {A : Nat} (hA : A < 65536) {X : Nat → Nat} (hX : ∀ p, p < 16 → A.testBit p = true → kc_K F A p (X p)) : M_groupsOf (nI A) s = some (nI (kc_g X 16 (A, 0)).2) := by
  unfold M_groupsOf
  obtain ⟨b, h1, h2⟩ := z_for (fun n k (a : Nat × Nat) => M_groupsOf_l7 n (nI A) (nI a.1) (nI a.2) (nI k) s) 16 (fun k a => a = kc_g X k (A, 0)) (fun v => v = nI (kc_g X 16 (A, 0)).2) (fun n a h => ⟨nI a.2, by
      show M_groupsOf_l7 (n + 1) (nI A) (nI a.1) (nI a.2) (nI 16) s = some (nI a.2)
      rw [M_groupsOf_l7]
      exact if_pos (by decide), by rw [h]⟩) (fun n k a hk h => Or.inr ⟨kc_g X (k + 1) (A, 0), by
      obtain ⟨c1, c2, c3⟩ := kc_g_lt X hA k
      rw [← h] at c1 c2 c3
      have e : kc_g X (k + 1) (A, 0) = (if a.1.testBit k = true then (x_sub a.1 (X k), a.2 + 1) else a) := by rw [h]; rfl
      rw [e]
      show M_groupsOf_l7 (n + 1) (nI A) (nI a.1) (nI a.2) (nI k) s = _
      rw [M_groupsOf_l7]
      simp (disch := omega) only [q_16, z_le, z_nle, z_1, if_false]
      simp only [M_has_eq (show a.1 < 2147483648 by omega) (show k < 32 by omega)]
      by_cases c : a.1.testBit k = true
      · rw [if_neg (by rw [c]; decide), if_pos c]
        obtain ⟨m, g1, g2⟩ := M_kin_eq ha hv hA hk
        rw [g1, kc_uniq g2 (hX k hk (c2 k c))]
        simp only []
        rw [x_not c1]
      · rw [if_pos (by simpa using c), if_neg c], rfl⟩) 70000 0 (A, 0) (by omega) rfl (by omega)
  have h1 : M_groupsOf_l7 70000 (nI A) (nI A) 0 0 s = some b := h1
  rw [h1, h2]
/-- of each set there are these least sets -/
theorem kc_ex {s : ax_S} {F : z_V} (ha : v_aM s.2.1 F) (hv : v_val F) {A : Nat} (hA : A < 65536) : ∃ X : Nat → Nat, ∀ p, p < 16 → A.testBit p = true → kc_K F A p (X p) := by
  refine ⟨fun p => if h : p < 16 then (M_kin_eq ha hv hA h).choose else 0, fun p hp _ => ?_⟩
  show kc_K F A p (if h : p < 16 then (M_kin_eq ha hv hA h).choose else 0)
  rw [dif_pos hp]
  exact (M_kin_eq ha hv hA hp).choose_spec.2
theorem X_M_groups {s t : ax_S} {F : z_V} (hv : v_val F) (hr : kc_rw F s) (ha : v_aM t.2.1 F) {A : Nat} (hA : A < 65536) : ∃ N, N ≤ 16 ∧ XKi_groups (nI A) s = some (nI N) ∧ M_groupsOf (nI A) t = some (nI N) := by
  obtain ⟨X, hX⟩ := kc_ex ha hv hA
  exact ⟨_, (kc_g_lt X hA 16).2.2, X_groups_eq hv hr hA hX, M_groups_eq ha hv hA hX⟩
theorem X_M_hold {s t : ax_S} {F : z_V} (hv : v_val F) (hr : kc_rw F s) (ha : v_aM t.2.1 F) {A : Nat} (hA : A < 65536) : ∃ a, XKi_holding (nI A) s = some a ∧ ∀ N, M_groupsOf (nI A) t = some (nI N) → N ≤ 16 → M_holders_l16 70000 (nI A) (nI N) 0 0 t = some a := by
  obtain ⟨N, hN, g1, g2⟩ := X_M_groups hv hr ha hA
  have hs : ∀ k, k < 16 → ∃ M, M ≤ 16 ∧ XKi_groups (nI A &&& ((1 : Int32) <<< (nI k &&& 31) ^^^ (-1))) s = some (nI M) ∧ M_groupsOf (nI A &&& ((1 : Int32) <<< (nI k &&& 31) ^^^ (-1))) t = some (nI M) := fun k hk => by
    rw [x_shl k (by omega), x_not hA]
    exact X_M_groups hv hr ha (x_sublt hA _)
  have hsame : ∀ k, k < 16 → A.testBit k = false → x_sub A (2 ^ k) = A := fun k hk hA2 => by
    apply Nat.eq_of_testBit_eq
    intro i
    rw [x_tsub hA, x_pow]
    by_cases e : k = i
    · subst e; rw [hA2]; rfl
    · simp [e]
  unfold XKi_holding
  rw [g1]
  simp only []
  obtain ⟨b, h1, h2⟩ := z_for (fun n k (a : Int32) => XKi_holding_l11 n (nI A) (nI N) a (nI k) s) 16 (fun k a => ∀ m, 20 ≤ m → M_holders_l16 (m + 16 - k) (nI A) (nI N) a (nI k) t = M_holders_l16 (m + 16) (nI A) (nI N) 0 0 t) (fun a => M_holders_l16 70000 (nI A) (nI N) 0 0 t = some a) (fun n a h => ⟨a, by
      show XKi_holding_l11 (n + 1) (nI A) (nI N) a (nI 16) s = some a
      rw [XKi_holding_l11]
      exact if_pos (by decide), by
      have := h 69984 (by omega)
      rw [show 69984 + 16 = 70000 from rfl] at this
      rw [← this, show 70000 - 16 = 69983 + 1 from rfl, M_holders_l16]
      exact if_pos (by decide)⟩) (fun n k a hk h => Or.inr (by
      show ∃ a', XKi_holding_l11 (n + 1) (nI A) (nI N) a (nI k) s = XKi_holding_l11 n (nI A) (nI N) a' (nI (k + 1)) s ∧ _
      obtain ⟨M, hM, m1, m2⟩ := hs k hk
      rw [XKi_holding_l11, m1]
      simp (disch := omega) only [q_16, z_le, z_nle, z_1, if_false]
      have hstep : ∀ m, 20 ≤ m → M_holders_l16 (m + 16 - k) (nI A) (nI N) a (nI k) t = if M_has (nI A) (nI k) t = 0 then M_holders_l16 (m + 16 - (k + 1)) (nI A) (nI N) a (nI (k + 1)) t else if M ≤ N then M_holders_l16 (m + 16 - (k + 1)) (nI A) (nI N) a (nI (k + 1)) t else M_holders_l16 (m + 16 - (k + 1)) (nI A) (nI N) (a ||| ((1 : Int32) <<< (nI k &&& 31))) (nI (k + 1)) t := fun m hm => by
        rw [show m + 16 - k = (m + 16 - (k + 1)) + 1 by omega, M_holders_l16, m2]
        simp (disch := omega) only [q_16, z_le, z_nle, z_1, if_false]
      by_cases c : M ≤ N
      · rw [if_pos c]
        refine ⟨a, rfl, fun m hm => ?_⟩
        rw [← h m hm, hstep m hm, if_pos c]
        split <;> rfl
      · rw [if_neg c]
        refine ⟨_, rfl, fun m hm => ?_⟩
        rw [← h m hm, hstep m hm, if_neg c]
        by_cases c2 : A.testBit k = false
        · exfalso
          rw [x_shl k (by omega), x_not hA, hsame k hk c2, g1] at m1
          have e : nI N = nI M := Option.some.inj m1
          rw [z_eq (by omega) (by omega)] at e
          omega
        · rw [if_neg (by rw [M_has_eq (by omega) (by omega)]; exact c2)])) 70000 0 0 (by omega) (fun m hm => rfl) (by omega)
  have h1 : XKi_holding_l11 70000 (nI A) (nI N) 0 0 s = some b := h1
  refine ⟨b, by rw [h1], fun N' e hN' => ?_⟩
  rw [g2] at e
  have e : nI N = nI N' := Option.some.inj e
  rw [← e]
  exact h2
