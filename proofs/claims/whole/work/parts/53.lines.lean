/-! straight lines, the middle, mirror; the calls printIs, personIs, figureIs, family -/
def sl_in (F : z_V) (a b i k : Nat) : Prop := ¬ F 0 i = -1 ∧ v_n F a i < k ∧ k < v_n F a i + v_n F b i
def sl_ok (F : z_V) (a b most m : Nat) : Prop := m < 65536 ∧ ∀ k, m.testBit k = true ↔ 1 ≤ k ∧ k < most ∧ ∀ i, i < 12 → ¬ sl_in F a b i k
theorem sl_uniq {F : z_V} {a b most m m' : Nat} (h : sl_ok F a b most m) (h' : sl_ok F a b most m') : m = m' := x_ext h.1 h'.1 fun i _ => by
  have := (h.2 i).trans (h'.2 i).symm
  revert this
  cases m.testBit i <;> cases m'.testBit i <;> simp
theorem sl_ins {l w : Nat} (hw : 1 ≤ w) (h : l + w ≤ 16) (s : ax_S) : ∃ m, m < 65536 ∧ XFi_insideLines (nI l) (nI w) s = nI m ∧ ∀ k, m.testBit k = true ↔ l < k ∧ k < l + w := by
  refine ⟨(2 ^ (w - 1) - 1) <<< (l + 1), v_mask_lt (by omega), ?_, fun k => ?_⟩
  · unfold XFi_insideLines
    rw [show nI w - 1 = nI (w - 1) by rw [q_1, z_sub hw], z_1]
    exact x_shlm (w := w - 1) (l := l + 1) (by omega) (by omega)
  · rw [v_mask_tb, decide_eq_true_eq]
    constructor
    · rintro ⟨a, b⟩; omega
    · rintro ⟨a, b⟩; omega
theorem XFi_straightColumns_4_eq {s : ax_S} {F : z_V} (ha : v_at s.2.1 5 F) (hv : v_val F) : ∃ m, XFi_straightColumns_4 s = some (nI m) ∧ sl_ok F 1 3 16 m := by
  unfold XFi_straightColumns_4
  obtain ⟨v, g1, g2⟩ := z_for (fun n k (m : Nat) => XFi_straightColumns_4_l5 n (nI m) (nI k) s) 12 (fun k m => m < 65536 ∧ ∀ q, m.testBit q = true ↔ 1 ≤ q ∧ q < 16 ∧ ∀ i, i < k → ¬ sl_in F 1 3 i q) (fun v => ∃ m, v = nI m ∧ sl_ok F 1 3 16 m) (fun n m h => ⟨nI m, by
      show XFi_straightColumns_4_l5 (n + 1) (nI m) (nI 12) s = some (nI m)
      rw [XFi_straightColumns_4_l5]
      exact if_pos (by decide), m, rfl, h⟩) (fun n k m hk h => Or.inr (by
      show ∃ m', XFi_straightColumns_4_l5 (n + 1) (nI m) (nI k) s = XFi_straightColumns_4_l5 n (nI m') (nI (k + 1)) s ∧ _
      have e0 : s.2.1 5 k = F 0 k := ha 0 k (by omega) hk
      have e1 : s.2.1 6 k = F 1 k := ha 1 k (by omega) hk
      have e2 : s.2.1 8 k = F 3 k := ha 3 k (by omega) hk
      rw [XFi_straightColumns_4_l5]
      simp (disch := omega) only [q_12, z_le, z_nle, z_cl, z_lt0, z_1, if_false, or_self]
      rw [e0, e1, e2]
      by_cases t : F 0 k = -1
      · refine ⟨m, by rw [if_pos t], h.1, fun q => (h.2 q).trans ⟨fun r => ⟨r.1, r.2.1, fun i hi => ?_⟩, fun r => ⟨r.1, r.2.1, fun i hi => r.2.2 i (by omega)⟩⟩⟩
        rcases Nat.lt_or_eq_of_le (Nat.lt_succ_iff.mp hi) with z | rfl
        · exact r.2.2 i z
        · exact fun z => z.1 t
      · rw [if_neg t]
        rcases hv k hk with c | c
        · exact absurd c t
        obtain ⟨mm, m1, m2, m3⟩ := sl_ins (l := v_n F 1 k) (w := v_n F 3 k) (by have := c.2.2.2.2.2.2.1; omega) (by have := c.2.2.2.2.2.2.2.2.1; omega) s
        rw [c.2.1, c.2.2.2.1, m2, x_not h.1]
        refine ⟨_, rfl, x_sublt h.1 _, fun q => ?_⟩
        rw [x_tsub h.1, Bool.and_eq_true, h.2]
        constructor
        · rintro ⟨⟨r1, r2, r3⟩, r4⟩
          refine ⟨r1, r2, fun i hi => ?_⟩
          rcases Nat.lt_or_eq_of_le (Nat.lt_succ_iff.mp hi) with z | rfl
          · exact r3 i z
          · intro z
            have : mm.testBit q = true := (m3 q).mpr ⟨z.2.1, z.2.2⟩
            rw [this] at r4
            cases r4
        · rintro ⟨r1, r2, r3⟩
          refine ⟨⟨r1, r2, fun i hi => r3 i (by omega)⟩, ?_⟩
          cases e : mm.testBit q with
          | false => rfl
          | true =>
            have := (m3 q).mp e
            exact absurd ⟨t, this.1, this.2⟩ (r3 k (by omega)))) 70000 0 65534 (by omega) ⟨by omega, fun q => by
      constructor
      · intro e
        have hq : q < 16 := by
          rcases Nat.lt_or_ge q 16 with z | z
          · exact z
          · rw [x_lt (m := 16) (by omega) z] at e; cases e
        have := (by decide : ∀ q, q < 16 → ((65534 : Nat).testBit q = true ↔ 1 ≤ q ∧ q < 16)) q hq
        exact ⟨(this.mp e).1, (this.mp e).2, fun i hi => absurd hi (Nat.not_lt_zero _)⟩
      · rintro ⟨e1, e2, -⟩
        exact ((by decide : ∀ q, q < 16 → ((65534 : Nat).testBit q = true ↔ 1 ≤ q ∧ q < 16)) q (by omega)).mpr ⟨e1, e2⟩⟩ (by omega)
  have g1 : XFi_straightColumns_4_l5 70000 65534 0 s = some v := g1
  obtain ⟨m, rfl, g⟩ := g2
  exact ⟨m, by rw [g1], g⟩
theorem XFi_straightRows_4_eq {s : ax_S} {F : z_V} (ha : v_at s.2.1 5 F) (hv : v_val F) : ∃ m, XFi_straightRows_4 s = some (nI m) ∧ sl_ok F 2 4 12 m := by
  unfold XFi_straightRows_4
  obtain ⟨v, g1, g2⟩ := z_for (fun n k (m : Nat) => XFi_straightRows_4_l6 n (nI m) (nI k) s) 12 (fun k m => m < 65536 ∧ ∀ q, m.testBit q = true ↔ 1 ≤ q ∧ q < 12 ∧ ∀ i, i < k → ¬ sl_in F 2 4 i q) (fun v => ∃ m, v = nI m ∧ sl_ok F 2 4 12 m) (fun n m h => ⟨nI m, by
      show XFi_straightRows_4_l6 (n + 1) (nI m) (nI 12) s = some (nI m)
      rw [XFi_straightRows_4_l6]
      exact if_pos (by decide), m, rfl, h⟩) (fun n k m hk h => Or.inr (by
      show ∃ m', XFi_straightRows_4_l6 (n + 1) (nI m) (nI k) s = XFi_straightRows_4_l6 n (nI m') (nI (k + 1)) s ∧ _
      have e0 : s.2.1 5 k = F 0 k := ha 0 k (by omega) hk
      have e1 : s.2.1 7 k = F 2 k := ha 2 k (by omega) hk
      have e2 : s.2.1 9 k = F 4 k := ha 4 k (by omega) hk
      rw [XFi_straightRows_4_l6]
      simp (disch := omega) only [q_12, z_le, z_nle, z_cl, z_lt0, z_1, if_false, or_self]
      rw [e0, e1, e2]
      by_cases t : F 0 k = -1
      · refine ⟨m, by rw [if_pos t], h.1, fun q => (h.2 q).trans ⟨fun r => ⟨r.1, r.2.1, fun i hi => ?_⟩, fun r => ⟨r.1, r.2.1, fun i hi => r.2.2 i (by omega)⟩⟩⟩
        rcases Nat.lt_or_eq_of_le (Nat.lt_succ_iff.mp hi) with z | rfl
        · exact r.2.2 i z
        · exact fun z => z.1 t
      · rw [if_neg t]
        rcases hv k hk with c | c
        · exact absurd c t
        obtain ⟨mm, m1, m2, m3⟩ := sl_ins (l := v_n F 2 k) (w := v_n F 4 k) (by have := c.2.2.2.2.2.2.2.1; omega) (by have := c.2.2.2.2.2.2.2.2.2; omega) s
        rw [c.2.2.1, c.2.2.2.2.1, m2, x_not h.1]
        refine ⟨_, rfl, x_sublt h.1 _, fun q => ?_⟩
        rw [x_tsub h.1, Bool.and_eq_true, h.2]
        constructor
        · rintro ⟨⟨r1, r2, r3⟩, r4⟩
          refine ⟨r1, r2, fun i hi => ?_⟩
          rcases Nat.lt_or_eq_of_le (Nat.lt_succ_iff.mp hi) with z | rfl
          · exact r3 i z
          · intro z
            have : mm.testBit q = true := (m3 q).mpr ⟨z.2.1, z.2.2⟩
            rw [this] at r4
            cases r4
        · rintro ⟨r1, r2, r3⟩
          refine ⟨⟨r1, r2, fun i hi => r3 i (by omega)⟩, ?_⟩
          cases e : mm.testBit q with
          | false => rfl
          | true =>
            have := (m3 q).mp e
            exact absurd ⟨t, this.1, this.2⟩ (r3 k (by omega)))) 70000 0 4094 (by omega) ⟨by omega, fun q => by
      constructor
      · intro e
        have hq : q < 16 := by
          rcases Nat.lt_or_ge q 16 with z | z
          · exact z
          · rw [x_lt (m := 16) (by omega) z] at e; cases e
        have := (by decide : ∀ q, q < 16 → ((4094 : Nat).testBit q = true ↔ 1 ≤ q ∧ q < 12)) q hq
        exact ⟨(this.mp e).1, (this.mp e).2, fun i hi => absurd hi (Nat.not_lt_zero _)⟩
      · rintro ⟨e1, e2, -⟩
        exact ((by decide : ∀ q, q < 16 → ((4094 : Nat).testBit q = true ↔ 1 ≤ q ∧ q < 12)) q (by omega)).mpr ⟨e1, e2⟩⟩ (by omega)
  have g1 : XFi_straightRows_4_l6 70000 4094 0 s = some v := g1
  obtain ⟨m, rfl, g⟩ := g2
  exact ⟨m, by rw [g1], g⟩
theorem M_line0 {s : ax_S} {F : z_V} (ha : v_aM s.2.1 F) (hv : v_val F) {k : Nat} (hk : k < 20) (x1 x3 : Int32) : (M_straight_l17 70000 x1 (nI 0) x3 (nI k) 0 0 s = some 0 ∧ ∀ i, i < 12 → ¬ sl_in F 1 3 i k) ∨ (M_straight_l17 70000 x1 (nI 0) x3 (nI k) 0 0 s = some 1 ∧ ¬ ∀ i, i < 12 → ¬ sl_in F 1 3 i k) := by
  obtain ⟨v, g1, g2⟩ := z_for (fun n j (c : Int32) => M_straight_l17 n x1 (nI 0) x3 (nI k) c (nI j) s) 12 (fun j c => (c = 0 ∧ ∀ i, i < j → ¬ sl_in F 1 3 i k) ∨ (c = 1 ∧ ∃ i, i < j ∧ sl_in F 1 3 i k)) (fun v => (v = 0 ∧ ∀ i, i < 12 → ¬ sl_in F 1 3 i k) ∨ (v = 1 ∧ ∃ i, i < 12 ∧ sl_in F 1 3 i k)) (fun n c h => ⟨c, by
      show M_straight_l17 (n + 1) x1 (nI 0) x3 (nI k) c (nI 12) s = some c
      rw [M_straight_l17]
      exact if_pos (by decide), h⟩) (fun n j c hj h => Or.inr (by
      show ∃ c', M_straight_l17 (n + 1) x1 (nI 0) x3 (nI k) c (nI j) s = M_straight_l17 n x1 (nI 0) x3 (nI k) c' (nI (j + 1)) s ∧ _
      have e0 : s.2.1 64 j = F 0 j := by have := ha 0 j (by omega) hj; rwa [Nat.mul_zero, Nat.zero_add] at this
      have e1 : s.2.1 64 (12 + j) = F 1 j := ha 1 j (by omega) hj
      have e2 : vM s.2.1 64 1 j = F 1 j := ha 1 j (by omega) hj
      have e3 : vM s.2.1 64 3 j = F 3 j := ha 3 j (by omega) hj
      have hskip : ¬ sl_in F 1 3 j k → (c = 0 ∧ ∀ i, i < j + 1 → ¬ sl_in F 1 3 i k) ∨ (c = 1 ∧ ∃ i, i < j + 1 ∧ sl_in F 1 3 i k) := fun hn => by
        rcases h with ⟨h1, h2⟩ | ⟨h1, i, h2, h3⟩
        · refine Or.inl ⟨h1, fun i hi => ?_⟩
          rcases Nat.lt_or_eq_of_le (Nat.lt_succ_iff.mp hi) with z | rfl
          · exact h2 i z
          · exact hn
        · exact Or.inr ⟨h1, i, by omega, h3⟩
      rw [M_straight_l17, M_fig_eq s j hj, e0]
      unfold M_straight_j25 M_straight_j54
      rw [if_pos (show nI 0 = 0 from rfl), if_pos (show nI 0 = 0 from rfl)]
      simp (disch := omega) only [q_12, q_24, nI_add, z_le, z_nle, z_cl, z_lt0, z_1, if_false, or_self]
      rw [M_right_eq s j hj, e1, e2, e3]
      simp only []
      by_cases t : F 0 j = -1
      · exact ⟨c, by simp [t], hskip fun q => q.1 t⟩
      · simp only [t, if_false, z_10]
        rcases hv j hj with d | d
        · exact absurd d t
        rw [d.2.1, d.2.2.2.1, nI_add]
        have hb1 := d.2.2.2.2.2.2.2.2.1
        have hb2 := d.2.2.2.2.2.2.2.2.2
        simp only [z_le (show k < 2147483648 by omega) (show v_n F 1 j < 2147483648 by omega), z_le (show v_n F 1 j + v_n F 3 j < 2147483648 by omega) (show k < 2147483648 by omega)]
        by_cases c1 : k ≤ v_n F 1 j
        · exact ⟨c, by rw [if_pos c1], hskip fun q => by have := q.2.1; omega⟩
        · rw [if_neg c1]
          by_cases c2 : v_n F 1 j + v_n F 3 j ≤ k
          · exact ⟨c, by rw [if_pos c2], hskip fun q => by have := q.2.2; omega⟩
          · exact ⟨1, by rw [if_neg c2], Or.inr ⟨rfl, j, by omega, t, by omega, by omega⟩⟩)) 70000 0 0 (by omega) (Or.inl ⟨rfl, fun i hi => absurd hi (Nat.not_lt_zero _)⟩) (by omega)
  have g1 : M_straight_l17 70000 x1 (nI 0) x3 (nI k) 0 0 s = some v := g1
  rcases g2 with ⟨rfl, q⟩ | ⟨rfl, i, q1, q2⟩
  · exact Or.inl ⟨g1, q⟩
  · exact Or.inr ⟨g1, fun q => q i q1 q2⟩
theorem M_str0 {s : ax_S} {F : z_V} (ha : v_aM s.2.1 F) (hv : v_val F) : ∃ m, M_straight (nI 16) (nI 0) s = some (nI m) ∧ sl_ok F 1 3 16 m := by
  unfold M_straight
  obtain ⟨v, g1, g2⟩ := z_for (fun n k (m : Nat) => M_straight_l5 n (nI 16) (nI 0) (nI m) (nI k) s) 16 (fun k m => 1 ≤ k ∧ m < 65536 ∧ ∀ q, m.testBit q = true ↔ 1 ≤ q ∧ q < k ∧ ∀ i, i < 12 → ¬ sl_in F 1 3 i q) (fun v => ∃ m, v = nI m ∧ sl_ok F 1 3 16 m) (fun n m h => ⟨nI m, by
      show M_straight_l5 (n + 1) (nI 16) (nI 0) (nI m) (nI 16) s = some (nI m)
      rw [M_straight_l5]
      exact if_pos (by decide), m, rfl, h.2⟩) (fun n k m hk h => Or.inr (by
      show ∃ m', M_straight_l5 (n + 1) (nI 16) (nI 0) (nI m) (nI k) s = M_straight_l5 n (nI 16) (nI 0) (nI m') (nI (k + 1)) s ∧ _
      rw [M_straight_l5]
      simp (disch := omega) only [z_le, z_nle, z_1, if_false]
      rcases M_line0 ha hv (k := k) (by omega) (nI 16) (nI m) with ⟨e1, e2⟩ | ⟨e1, e2⟩
      · rw [e1]
        simp only [if_true]
        rw [x_shl k (by omega), x_or]
        refine ⟨_, rfl, by omega, x_orlt h.2.1 (x_plt (by omega)), fun q => ?_⟩
        rw [fb_bit_set, Bool.or_eq_true, h.2.2]
        constructor
        · rintro (⟨r1, r2, r3⟩ | r)
          · exact ⟨r1, by omega, r3⟩
          · have r := of_decide_eq_true r
            rw [r]
            exact ⟨h.1, by omega, e2⟩
        · rintro ⟨r1, r2, r3⟩
          rcases Nat.lt_or_eq_of_le (Nat.lt_succ_iff.mp r2) with z | rfl
          · exact Or.inl ⟨r1, z, r3⟩
          · exact Or.inr (by simp)
      · rw [e1]
        refine ⟨m, by simp, by omega, h.2.1, fun q => (h.2.2 q).trans ⟨fun ⟨r1, r2, r3⟩ => ⟨r1, by omega, r3⟩, fun ⟨r1, r2, r3⟩ => ⟨r1, ?_, r3⟩⟩⟩
        rcases Nat.lt_or_eq_of_le (Nat.lt_succ_iff.mp r2) with z | rfl
        · exact z
        · exact absurd r3 e2)) 70000 1 0 (by omega) ⟨Nat.le_refl _, by omega, fun q => ⟨fun e => by simp at e, fun ⟨r1, r2, _⟩ => by omega⟩⟩ (by omega)
  have g1 : M_straight_l5 70000 (nI 16) (nI 0) 0 1 s = some v := g1
  obtain ⟨m, rfl, g⟩ := g2
  exact ⟨m, by rw [g1], g⟩
theorem M_line1 {s : ax_S} {F : z_V} (ha : v_aM s.2.1 F) (hv : v_val F) {k : Nat} (hk : k < 20) (x1 x3 : Int32) : (M_straight_l17 70000 x1 (nI 1) x3 (nI k) 0 0 s = some 0 ∧ ∀ i, i < 12 → ¬ sl_in F 2 4 i k) ∨ (M_straight_l17 70000 x1 (nI 1) x3 (nI k) 0 0 s = some 1 ∧ ¬ ∀ i, i < 12 → ¬ sl_in F 2 4 i k) := by
  obtain ⟨v, g1, g2⟩ := z_for (fun n j (c : Int32) => M_straight_l17 n x1 (nI 1) x3 (nI k) c (nI j) s) 12 (fun j c => (c = 0 ∧ ∀ i, i < j → ¬ sl_in F 2 4 i k) ∨ (c = 1 ∧ ∃ i, i < j ∧ sl_in F 2 4 i k)) (fun v => (v = 0 ∧ ∀ i, i < 12 → ¬ sl_in F 2 4 i k) ∨ (v = 1 ∧ ∃ i, i < 12 ∧ sl_in F 2 4 i k)) (fun n c h => ⟨c, by
      show M_straight_l17 (n + 1) x1 (nI 1) x3 (nI k) c (nI 12) s = some c
      rw [M_straight_l17]
      exact if_pos (by decide), h⟩) (fun n j c hj h => Or.inr (by
      show ∃ c', M_straight_l17 (n + 1) x1 (nI 1) x3 (nI k) c (nI j) s = M_straight_l17 n x1 (nI 1) x3 (nI k) c' (nI (j + 1)) s ∧ _
      have e0 : s.2.1 64 j = F 0 j := by have := ha 0 j (by omega) hj; rwa [Nat.mul_zero, Nat.zero_add] at this
      have e1 : s.2.1 64 (24 + j) = F 2 j := ha 2 j (by omega) hj
      have e2 : vM s.2.1 64 2 j = F 2 j := ha 2 j (by omega) hj
      have e3 : vM s.2.1 64 4 j = F 4 j := ha 4 j (by omega) hj
      have hskip : ¬ sl_in F 2 4 j k → (c = 0 ∧ ∀ i, i < j + 1 → ¬ sl_in F 2 4 i k) ∨ (c = 1 ∧ ∃ i, i < j + 1 ∧ sl_in F 2 4 i k) := fun hn => by
        rcases h with ⟨h1, h2⟩ | ⟨h1, i, h2, h3⟩
        · refine Or.inl ⟨h1, fun i hi => ?_⟩
          rcases Nat.lt_or_eq_of_le (Nat.lt_succ_iff.mp hi) with z | rfl
          · exact h2 i z
          · exact hn
        · exact Or.inr ⟨h1, i, by omega, h3⟩
      rw [M_straight_l17, M_fig_eq s j hj, e0]
      unfold M_straight_j25 M_straight_j54
      rw [if_neg (show ¬ nI 1 = 0 by decide), if_neg (show ¬ nI 1 = 0 by decide)]
      simp (disch := omega) only [q_12, q_24, nI_add, z_le, z_nle, z_cl, z_lt0, z_1, if_false, or_self]
      rw [M_below_eq s j hj, e1, e2, e3]
      simp only []
      by_cases t : F 0 j = -1
      · exact ⟨c, by simp [t], hskip fun q => q.1 t⟩
      · simp only [t, if_false, z_10]
        rcases hv j hj with d | d
        · exact absurd d t
        rw [d.2.2.1, d.2.2.2.2.1, nI_add]
        have hb1 := d.2.2.2.2.2.2.2.2.1
        have hb2 := d.2.2.2.2.2.2.2.2.2
        simp only [z_le (show k < 2147483648 by omega) (show v_n F 2 j < 2147483648 by omega), z_le (show v_n F 2 j + v_n F 4 j < 2147483648 by omega) (show k < 2147483648 by omega)]
        by_cases c1 : k ≤ v_n F 2 j
        · exact ⟨c, by rw [if_pos c1], hskip fun q => by have := q.2.1; omega⟩
        · rw [if_neg c1]
          by_cases c2 : v_n F 2 j + v_n F 4 j ≤ k
          · exact ⟨c, by rw [if_pos c2], hskip fun q => by have := q.2.2; omega⟩
          · exact ⟨1, by rw [if_neg c2], Or.inr ⟨rfl, j, by omega, t, by omega, by omega⟩⟩)) 70000 0 0 (by omega) (Or.inl ⟨rfl, fun i hi => absurd hi (Nat.not_lt_zero _)⟩) (by omega)
  have g1 : M_straight_l17 70000 x1 (nI 1) x3 (nI k) 0 0 s = some v := g1
  rcases g2 with ⟨rfl, q⟩ | ⟨rfl, i, q1, q2⟩
  · exact Or.inl ⟨g1, q⟩
  · exact Or.inr ⟨g1, fun q => q i q1 q2⟩
theorem M_str1 {s : ax_S} {F : z_V} (ha : v_aM s.2.1 F) (hv : v_val F) : ∃ m, M_straight (nI 12) (nI 1) s = some (nI m) ∧ sl_ok F 2 4 12 m := by
  unfold M_straight
  obtain ⟨v, g1, g2⟩ := z_for (fun n k (m : Nat) => M_straight_l5 n (nI 12) (nI 1) (nI m) (nI k) s) 12 (fun k m => 1 ≤ k ∧ m < 65536 ∧ ∀ q, m.testBit q = true ↔ 1 ≤ q ∧ q < k ∧ ∀ i, i < 12 → ¬ sl_in F 2 4 i q) (fun v => ∃ m, v = nI m ∧ sl_ok F 2 4 12 m) (fun n m h => ⟨nI m, by
      show M_straight_l5 (n + 1) (nI 12) (nI 1) (nI m) (nI 12) s = some (nI m)
      rw [M_straight_l5]
      exact if_pos (by decide), m, rfl, h.2⟩) (fun n k m hk h => Or.inr (by
      show ∃ m', M_straight_l5 (n + 1) (nI 12) (nI 1) (nI m) (nI k) s = M_straight_l5 n (nI 12) (nI 1) (nI m') (nI (k + 1)) s ∧ _
      rw [M_straight_l5]
      simp (disch := omega) only [z_le, z_nle, z_1, if_false]
      rcases M_line1 ha hv (k := k) (by omega) (nI 12) (nI m) with ⟨e1, e2⟩ | ⟨e1, e2⟩
      · rw [e1]
        simp only [if_true]
        rw [x_shl k (by omega), x_or]
        refine ⟨_, rfl, by omega, x_orlt h.2.1 (x_plt (by omega)), fun q => ?_⟩
        rw [fb_bit_set, Bool.or_eq_true, h.2.2]
        constructor
        · rintro (⟨r1, r2, r3⟩ | r)
          · exact ⟨r1, by omega, r3⟩
          · have r := of_decide_eq_true r
            rw [r]
            exact ⟨h.1, by omega, e2⟩
        · rintro ⟨r1, r2, r3⟩
          rcases Nat.lt_or_eq_of_le (Nat.lt_succ_iff.mp r2) with z | rfl
          · exact Or.inl ⟨r1, z, r3⟩
          · exact Or.inr (by simp)
      · rw [e1]
        refine ⟨m, by simp, by omega, h.2.1, fun q => (h.2.2 q).trans ⟨fun ⟨r1, r2, r3⟩ => ⟨r1, by omega, r3⟩, fun ⟨r1, r2, r3⟩ => ⟨r1, ?_, r3⟩⟩⟩
        rcases Nat.lt_or_eq_of_le (Nat.lt_succ_iff.mp r2) with z | rfl
        · exact z
        · exact absurd r3 e2)) 70000 1 0 (by omega) ⟨Nat.le_refl _, by omega, fun q => ⟨fun e => by simp at e, fun ⟨r1, r2, _⟩ => by omega⟩⟩ (by omega)
  have g1 : M_straight_l5 70000 (nI 12) (nI 1) 0 1 s = some v := g1
  obtain ⟨m, rfl, g⟩ := g2
  exact ⟨m, by rw [g1], g⟩
/-! the middle -/
def md_a (a b : Nat) : Nat := if b ≤ a then a - b else b - a
theorem md_X (a b : Nat) (ha : a < 1000) (hb : b < 1000) : (if 0 ≤ nI a - nI b then nI a - nI b else 0 - (nI a - nI b)) = nI (md_a a b) := by
  unfold md_a
  simp only [zs_0le (show a < 1073741824 by omega) (show b < 1073741824 by omega)]
  by_cases c : b ≤ a
  · rw [if_pos c, if_pos c, z_sub c]
  · rw [if_neg c, if_neg c, Int32.zero_sub, Int32.neg_sub, z_sub (by omega)]
theorem md_M (a b : Nat) (ha : a < 1000) (hb : b < 1000) (s : ax_S) : M_size (nI a - nI b) s = nI (md_a a b) := by
  rw [← md_X a b ha hb]
  unfold M_size
  rw [Int32.zero_sub]
def md_w (F : z_V) (i : Nat) : Nat := md_a (2 * v_n F 1 i + v_n F 3 i) 16 + md_a (2 * v_n F 2 i + v_n F 4 i) 12
def md_r (F : z_V) : Nat → Option Nat
  | 0 => none
  | k + 1 => if F 0 k = -1 then md_r F k else (match md_r F k with
    | none => some k
    | some b => if md_w F k < md_w F b then some k else some b)
theorem md_rt (F : z_V) : ∀ k b, md_r F k = some b → b < k ∧ ¬ F 0 b = -1
  | 0, b, h => by cases h
  | k + 1, b, h => by
    rw [md_r] at h
    by_cases t : F 0 k = -1
    · rw [if_pos t] at h
      have := md_rt F k b h
      exact ⟨by omega, this.2⟩
    · rw [if_neg t] at h
      cases e : md_r F k with
      | none =>
        rw [e] at h
        have : k = b := by simpa using h
        subst this
        exact ⟨by omega, t⟩
      | some c =>
        rw [e] at h
        have hc := md_rt F k c e
        by_cases d : md_w F k < md_w F c
        · have : k = b := by simpa [d] using h
          subst this
          exact ⟨by omega, t⟩
        · have : c = b := by simpa [d] using h
          subst this
          exact ⟨by omega, hc.2⟩
theorem md_wl {F : z_V} (hv : v_val F) {i : Nat} (hi : i < 12) (t : ¬ F 0 i = -1) : md_w F i < 56 := by
  rcases hv i hi with d | d
  · exact absurd d t
  have h1 := d.2.2.2.2.2.2.2.2.1
  have h2 := d.2.2.2.2.2.2.2.2.2
  unfold md_w md_a
  split <;> split <;> omega
def md_e (F : z_V) : Option Nat → Int32
  | none => -2
  | some b => F 0 b
def md_l (F : z_V) (big : Nat) : Option Nat → Nat
  | none => big
  | some b => md_w F b
theorem X_mid_eq {s : ax_S} {F : z_V} (ha : v_at s.2.1 5 F) (hv : v_val F) : XFi_middlePerson_4 s = some (md_e F (md_r F 12)) := by
  unfold XFi_middlePerson_4
  obtain ⟨v, g1, g2⟩ := z_for (fun n k (a : Option Nat) => XFi_middlePerson_4_l8 n (md_e F a) (nI (md_l F 56 a)) (nI k) s) 12 (fun k a => a = md_r F k) (fun v => v = md_e F (md_r F 12)) (fun n a h => ⟨md_e F a, by
      show XFi_middlePerson_4_l8 (n + 1) (md_e F a) _ (nI 12) s = _
      rw [XFi_middlePerson_4_l8]
      exact if_pos (by decide), by rw [h]⟩) (fun n k a hk h => Or.inr ⟨md_r F (k + 1), by
      show XFi_middlePerson_4_l8 (n + 1) (md_e F a) (nI (md_l F 56 a)) (nI k) s = XFi_middlePerson_4_l8 n (md_e F (md_r F (k + 1))) (nI (md_l F 56 (md_r F (k + 1)))) (nI (k + 1)) s
      have e0 : s.2.1 5 k = F 0 k := ha 0 k (by omega) hk
      have e1 : s.2.1 6 k = F 1 k := ha 1 k (by omega) hk
      have e2 : s.2.1 7 k = F 2 k := ha 2 k (by omega) hk
      have e3 : s.2.1 8 k = F 3 k := ha 3 k (by omega) hk
      have e4 : s.2.1 9 k = F 4 k := ha 4 k (by omega) hk
      rw [XFi_middlePerson_4_l8]
      simp (disch := omega) only [q_12, z_le, z_nle, z_cl, z_lt0, z_1, if_false, or_self]
      rw [e0, e1, e2, e3, e4, md_r]
      by_cases t : F 0 k = -1
      · rw [if_pos t, if_pos t, h]
      · rw [if_neg t, if_neg t]
        have hw := md_wl hv hk t
        rcases hv k hk with d | d
        · exact absurd d t
        have h1 := d.2.2.2.2.2.2.2.2.1
        have h2 := d.2.2.2.2.2.2.2.2.2
        rw [d.2.1, d.2.2.1, d.2.2.2.1, d.2.2.2.2.1, q_2, pk_mul, pk_mul, nI_add, nI_add, q_16, md_X _ _ (by omega) (by omega), md_X _ _ (by omega) (by omega), nI_add]
        have hw2 : md_a (2 * v_n F 1 k + v_n F 3 k) 16 + md_a (2 * v_n F 2 k + v_n F 4 k) 12 = md_w F k := rfl
        rw [hw2]
        subst h
        cases e : md_r F k with
        | none =>
          show (if nI 56 ≤ nI (md_w F k) then _ else _) = _
          rw [if_neg (by rw [z_le (by omega) (by omega)]; omega)]
          rfl
        | some b =>
          have hb := md_rt F k b e
          have hwb := md_wl hv (show b < 12 by omega) hb.2
          show (if nI (md_w F b) ≤ nI (md_w F k) then _ else _) = XFi_middlePerson_4_l8 n (md_e F (if md_w F k < md_w F b then some k else some b)) (nI (md_l F 56 (if md_w F k < md_w F b then some k else some b))) (nI (k + 1)) s
          by_cases c : md_w F k < md_w F b
          · rw [if_pos c, if_neg (by rw [z_le (by omega) (by omega)]; omega)]
            rfl
          · rw [if_neg c, if_pos (by rw [z_le (by omega) (by omega)]; omega)], rfl⟩) 70000 0 none (by omega) rfl (by omega)
  have g1 : XFi_middlePerson_4_l8 70000 (-2) 56 0 s = some v := g1
  rw [g1, g2]
theorem M_mid_eq {s : ax_S} {F : z_V} (ha : v_aM s.2.1 F) (hv : v_val F) : M_middleOne s = some (md_e F (md_r F 12)) := by
  unfold M_middleOne
  obtain ⟨v, g1, g2⟩ := z_for (fun n k (a : Option Nat) => M_middleOne_l9 n (md_e F a) (nI (md_l F 1000000 a)) (nI k) s) 12 (fun k a => a = md_r F k) (fun v => v = md_e F (md_r F 12)) (fun n a h => ⟨md_e F a, by
      show M_middleOne_l9 (n + 1) (md_e F a) _ (nI 12) s = _
      rw [M_middleOne_l9]
      exact if_pos (by decide), by rw [h]⟩) (fun n k a hk h => Or.inr ⟨md_r F (k + 1), by
      show M_middleOne_l9 (n + 1) (md_e F a) (nI (md_l F 1000000 a)) (nI k) s = M_middleOne_l9 n (md_e F (md_r F (k + 1))) (nI (md_l F 1000000 (md_r F (k + 1)))) (nI (k + 1)) s
      have e0 : s.2.1 64 k = F 0 k := by have := ha 0 k (by omega) hk; rwa [Nat.mul_zero, Nat.zero_add] at this
      have e1 : s.2.1 64 (12 + k) = F 1 k := ha 1 k (by omega) hk
      have e2 : s.2.1 64 (24 + k) = F 2 k := ha 2 k (by omega) hk
      have x1 : vM s.2.1 64 1 k = F 1 k := ha 1 k (by omega) hk
      have x2 : vM s.2.1 64 2 k = F 2 k := ha 2 k (by omega) hk
      have x3 : vM s.2.1 64 3 k = F 3 k := ha 3 k (by omega) hk
      have x4 : vM s.2.1 64 4 k = F 4 k := ha 4 k (by omega) hk
      rw [M_middleOne_l9, M_right_eq s k hk, M_below_eq s k hk, M_fig_eq s k hk]
      simp (disch := omega) only [q_12, q_24, z_0add, nI_add, z_le, z_nle, z_cl, z_lt0, z_1, if_false, or_self]
      rw [e0, e1, e2, x1, x2, x3, x4, md_r]
      by_cases t : F 0 k = -1
      · rw [if_pos t, if_pos rfl, if_pos t, h]
      · simp only [t, if_false, z_10]
        have hw := md_wl hv hk t
        rcases hv k hk with d | d
        · exact absurd d t
        have h1 := d.2.2.2.2.2.2.2.2.1
        have h2 := d.2.2.2.2.2.2.2.2.2
        rw [d.2.1, d.2.2.1, d.2.2.2.1, d.2.2.2.2.1, nI_add, nI_add, nI_add, nI_add, q_16, md_M _ _ (by omega) (by omega), md_M _ _ (by omega) (by omega), nI_add]
        have hw2 : md_a (v_n F 1 k + (v_n F 1 k + v_n F 3 k)) 16 + md_a (v_n F 2 k + (v_n F 2 k + v_n F 4 k)) 12 = md_w F k := by
          unfold md_w
          rw [show v_n F 1 k + (v_n F 1 k + v_n F 3 k) = 2 * v_n F 1 k + v_n F 3 k by omega, show v_n F 2 k + (v_n F 2 k + v_n F 4 k) = 2 * v_n F 2 k + v_n F 4 k by omega]
        rw [hw2]
        subst h
        cases e : md_r F k with
        | none =>
          show (if nI (md_w F k) < nI 1000000 then _ else _) = _
          rw [if_pos (by rw [z_lt (by omega) (by omega)]; omega)]
          rfl
        | some b =>
          have hb := md_rt F k b e
          have hwb := md_wl hv (show b < 12 by omega) hb.2
          show (if nI (md_w F k) < nI (md_w F b) then _ else _) = M_middleOne_l9 n (md_e F (if md_w F k < md_w F b then some k else some b)) (nI (md_l F 1000000 (if md_w F k < md_w F b then some k else some b))) (nI (k + 1)) s
          by_cases c : md_w F k < md_w F b
          · rw [if_pos c, if_pos (by rw [z_lt (by omega) (by omega)]; exact c)]
            rfl
          · rw [if_neg c, if_neg (by rw [z_lt (by omega) (by omega)]; exact c)], rfl⟩) 70000 0 none (by omega) rfl (by omega)
  have g1 : M_middleOne_l9 70000 (-2) 1000000 0 s = some v := g1
  rw [g1, g2]
