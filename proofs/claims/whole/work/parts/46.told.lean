/-! told -/
/-- a set explains the twos -/
def td_ex (B : Nat → Nat) (n m set : Nat) : Prop := ∀ k, k < m → set.testBit (B (2 * n + 2 * k)) = true ∨ set.testBit (B (2 * n + 2 * k + 1)) = true
def td_in (set could : Nat) : Prop := ∀ i, set.testBit i = true → could.testBit i = true
def td_ky (set : Nat) : Nat := x_pop set * 65536 + set
def td_b (V : Nat → Prop) (b : Option Nat) : Prop := (∀ c, b = some c → V c ∧ c < 65536) ∧ ∀ c, V c → ∃ d, b = some d ∧ td_ky d ≤ td_ky c
theorem td_uniq {V : Nat → Prop} {b b' : Option Nat} (h : td_b V b) (h' : td_b V b') : b = b' := by
  cases b with
  | none =>
    cases b' with
    | none => rfl
    | some c =>
      obtain ⟨d, e, -⟩ := h.2 c (h'.1 c rfl).1
      cases e
  | some c =>
    obtain ⟨d, e, hd⟩ := h'.2 c (h.1 c rfl).1
    subst e
    obtain ⟨d2, e2, hd2⟩ := h.2 d (h'.1 d rfl).1
    cases e2
    have c1 := (h.1 c rfl).2
    have c2 := (h'.1 d rfl).2
    unfold td_ky at hd hd2
    have : c = d := by omega
    rw [this]
theorem x_le {a b : Nat} (h : ∀ i, a.testBit i = true → b.testBit i = true) : a ≤ b := by
  have e : a &&& b = a := by
    apply Nat.eq_of_testBit_eq
    intro i
    rw [Nat.testBit_and]
    have := h i
    revert this
    cases a.testBit i <;> cases b.testBit i <;> simp
  rw [← e]
  exact Nat.and_le_right
theorem x_ple {a b : Nat} (h : ∀ i, a.testBit i = true → b.testBit i = true) : x_pop a ≤ x_pop b := fb_ct_sub fun k _ => h k
theorem td_le {a b : Nat} (h : td_in a b) : td_ky a ≤ td_ky b := by
  have := x_le h
  have := x_ple h
  unfold td_ky
  omega
theorem td_sub0 {a b : Nat} (ha : a < 65536) : x_sub a b = 0 ↔ td_in a b := by
  constructor
  · intro e i hi
    have e1 : (x_sub a b).testBit i = false := by rw [e]; simp
    rw [x_tsub ha, hi] at e1
    simpa using e1
  · intro h
    apply Nat.eq_of_testBit_eq
    intro i
    rw [x_tsub ha, Nat.zero_testBit]
    have := h i
    revert this
    cases a.testBit i <;> cases b.testBit i <;> simp
/-- the class's choices -/
def td_cb (B : Nat → Nat) (n choice i : Nat) : Nat := 2 ^ B (2 * n + 2 * i + (if choice.testBit i = true then 1 else 0))
def td_ch (B : Nat → Nat) (n m choice : Nat) : Nat := z_nor (td_cb B n choice) m
theorem td_chlt {B : Nat → Nat} {n m : Nat} (hB : ∀ k, k < m → B (2 * n + 2 * k) < 16 ∧ B (2 * n + 2 * k + 1) < 16) (choice : Nat) : td_ch B n m choice < 65536 := z_nor_lt m fun i hi => by
  unfold td_cb
  split
  · exact x_plt (hB i hi).2
  · exact x_plt (hB i hi).1
theorem td_chex (B : Nat → Nat) (n m choice : Nat) : td_ex B n m (td_ch B n m choice) := fun k hk => by
  unfold td_ch
  rw [z_nor_tb, z_nor_tb]
  by_cases c : choice.testBit k = true
  · exact Or.inr ⟨k, hk, by unfold td_cb; rw [if_pos c, x_pow]; simp⟩
  · exact Or.inl ⟨k, hk, by unfold td_cb; rw [if_neg c, Nat.add_zero, x_pow]; simp⟩
/-- bits given one by one -/
theorem td_bits (f : Nat → Bool) : ∀ m, ∃ c, c < 2 ^ m ∧ ∀ i, i < m → c.testBit i = f i
  | 0 => ⟨0, by decide, fun i hi => absurd hi (Nat.not_lt_zero _)⟩
  | m + 1 => by
    obtain ⟨c, h1, h2⟩ := td_bits f m
    by_cases e : f m = true
    · refine ⟨c ||| 2 ^ m, ?_, fun i hi => ?_⟩
      · exact Nat.or_lt_two_pow (Nat.lt_of_lt_of_le h1 (Nat.pow_le_pow_right (by omega) (by omega))) (Nat.pow_lt_pow_right (by omega) (by omega))
      · rw [fb_bit_set]
        by_cases q : i = m
        · subst q; simp [e]
        · rw [h2 i (by omega)]; simp [q]
    · refine ⟨c, Nat.lt_of_lt_of_le h1 (Nat.pow_le_pow_right (by omega) (by omega)), fun i hi => ?_⟩
      by_cases q : i = m
      · subst q
        rw [x_lt h1 (Nat.le_refl _)]
        cases hf : f i
        · rfl
        · exact absurd hf e
      · exact h2 i (by omega)
theorem td_pick {B : Nat → Nat} {n m set : Nat} (h : td_ex B n m set) : ∃ choice, choice < 2 ^ m ∧ td_in (td_ch B n m choice) set := by
  obtain ⟨c, h1, h2⟩ := td_bits (fun k => !set.testBit (B (2 * n + 2 * k))) m
  refine ⟨c, h1, fun i hi => ?_⟩
  unfold td_ch at hi
  rw [z_nor_tb] at hi
  obtain ⟨k, hk, e⟩ := hi
  have h3 := h2 k hk
  unfold td_cb at e
  rw [x_pow] at e
  have e := of_decide_eq_true e
  by_cases q : set.testBit (B (2 * n + 2 * k)) = true
  · rw [q] at h3
    have h3 : c.testBit k = false := h3
    rw [h3] at e
    rw [← e]
    exact q
  · have h4 : c.testBit k = true := by rw [h3]; simpa using q
    rw [h4] at e
    rw [← e]
    rcases h k hk with r | r
    · exact absurd r q
    · exact r
/-- the two ways meet -/
theorem td_meet {B : Nat → Nat} {n m could : Nat} (hB : ∀ k, k < m → B (2 * n + 2 * k) < 16 ∧ B (2 * n + 2 * k + 1) < 16) {b b' : Option Nat}
    (hX : (∀ c, b = some c → td_in c could ∧ ∃ choice, choice < 2 ^ m ∧ c = td_ch B n m choice) ∧ ∀ choice, choice < 2 ^ m → td_in (td_ch B n m choice) could → ∃ d, b = some d ∧ td_ky d ≤ td_ky (td_ch B n m choice))
    (hM : td_b (fun set => td_in set could ∧ td_ex B n m set) b') : b = b' := by
  refine td_uniq (V := fun set => td_in set could ∧ td_ex B n m set) ⟨fun c hc => ?_, fun c hc => ?_⟩ hM
  · obtain ⟨h1, choice, h2, h3⟩ := hX.1 c hc
    rw [h3]
    exact ⟨⟨by rw [← h3]; exact h1, td_chex B n m choice⟩, td_chlt hB choice⟩
  · obtain ⟨choice, h1, h2⟩ := td_pick hc.2
    obtain ⟨d, e, q⟩ := hX.2 choice h1 fun i hi => hc.1 i (h2 i hi)
    exact ⟨d, e, Nat.le_trans q (td_le h2)⟩
theorem X_chosen {s : ax_S} {l n m choice : Nat} {B : Nat → Nat} (hl : l ≤ 260) (h : s.2.1 1 1 = nI l) (hX : ∀ k, k < l → s.2.1 2 k = nI (B k)) (hn : 2 * n + 2 * m ≤ l) (hm : m ≤ 10) (hB : ∀ k, k < m → B (2 * n + 2 * k) < 16 ∧ B (2 * n + 2 * k + 1) < 16) (hc : choice < 1024) (x3 x4 : Int32) : XSh_fewestExplaining_l21 70000 (nI (2 * n)) (nI m) x3 x4 (nI choice) 0 0 s = some (nI (td_ch B n m choice)) := by
  obtain ⟨b, g1, g2⟩ := z_for (fun j k (a : Int32) => XSh_fewestExplaining_l21 j (nI (2 * n)) (nI m) x3 x4 (nI choice) a (nI k) s) m (fun k a => a = nI (z_nor (td_cb B n choice) k)) (fun a => a = nI (td_ch B n m choice)) (fun j a ha => ⟨a, by
      show XSh_fewestExplaining_l21 (j + 1) (nI (2 * n)) (nI m) x3 x4 (nI choice) a (nI m) s = some a
      rw [XSh_fewestExplaining_l21]
      exact if_pos (Int32.le_refl _), ha⟩) (fun j k a hk ha => Or.inr ⟨nI (z_nor (td_cb B n choice) (k + 1)), by
      show XSh_fewestExplaining_l21 (j + 1) (nI (2 * n)) (nI m) x3 x4 (nI choice) a (nI k) s = XSh_fewestExplaining_l21 j (nI (2 * n)) (nI m) x3 x4 (nI choice) (nI (z_nor (td_cb B n choice) (k + 1))) (nI (k + 1)) s
      have hb : ((nI choice >>> (nI k &&& 31)) &&& 1) = nI (if choice.testBit k = true then 1 else 0) := by
        rw [x_bit (by omega) (by omega)]
        split <;> rfl
      have hi : 2 * n + 2 * k + (if choice.testBit k = true then 1 else 0) < l := by split <;> omega
      have hlt : B (2 * n + 2 * k + (if choice.testBit k = true then 1 else 0)) < 16 := by
        split
        · exact (hB k hk).2
        · exact (hB k hk).1
      rw [XSh_fewestExplaining_l21, if_neg (by rw [z_le (by omega) (by omega)]; omega), hb, q_2, pk_mul, nI_add, nI_add, XB hl h hX hi, z_1, ha]
      show XSh_fewestExplaining_l21 j (nI (2 * n)) (nI m) x3 x4 (nI choice) (nI (z_nor (td_cb B n choice) k) ||| (1 : Int32) <<< (nI (B (2 * n + 2 * k + (if choice.testBit k = true then 1 else 0))) &&& 31)) (nI (k + 1)) s = _
      rw [x_shl _ (by omega), x_or]
      rfl, rfl⟩) 70000 0 0 (Nat.zero_le _) rfl (by omega)
  rw [g2] at g1
  exact g1
theorem X_few_eq {s : ax_S} {l n m could : Nat} {B : Nat → Nat} (hl : l ≤ 260) (h : s.2.1 1 1 = nI l) (hX : ∀ k, k < l → s.2.1 2 k = nI (B k)) (hn : 2 * n + 2 * m ≤ l) (hm : m ≤ 10) (hB : ∀ k, k < m → B (2 * n + 2 * k) < 16 ∧ B (2 * n + 2 * k + 1) < 16) : ∃ b : Option Nat, XSh_fewestExplaining (nI (2 * n)) (nI m) (nI could) s = some (of_e b) ∧ (∀ c, b = some c → td_in c could ∧ ∃ choice, choice < 2 ^ m ∧ c = td_ch B n m choice) ∧ ∀ choice, choice < 2 ^ m → td_in (td_ch B n m choice) could → ∃ d, b = some d ∧ td_ky d ≤ td_ky (td_ch B n m choice) := by
  have hp : 2 ^ m ≤ 1024 := Nat.pow_le_pow_right (by omega) (show m ≤ 10 from hm)
  unfold XSh_fewestExplaining
  obtain ⟨v, g1, g2⟩ := z_for (fun j k (a : Option Nat) => XSh_fewestExplaining_l7 j (nI (2 * n)) (nI m) (nI could) (of_e a) (nI k) s) (2 ^ m) (fun k b => (∀ c, b = some c → td_in c could ∧ ∃ choice, choice < 2 ^ m ∧ c = td_ch B n m choice) ∧ ∀ choice, choice < k → td_in (td_ch B n m choice) could → ∃ d, b = some d ∧ td_ky d ≤ td_ky (td_ch B n m choice)) (fun v => ∃ b : Option Nat, v = of_e b ∧ (∀ c, b = some c → td_in c could ∧ ∃ choice, choice < 2 ^ m ∧ c = td_ch B n m choice) ∧ ∀ choice, choice < 2 ^ m → td_in (td_ch B n m choice) could → ∃ d, b = some d ∧ td_ky d ≤ td_ky (td_ch B n m choice)) (fun j a ha => ⟨of_e a, by
      show XSh_fewestExplaining_l7 (j + 1) (nI (2 * n)) (nI m) (nI could) (of_e a) (nI (2 ^ m)) s = some (of_e a)
      rw [XSh_fewestExplaining_l7, x_shl m (by omega)]
      exact if_pos (Int32.le_refl _), a, rfl, ha⟩) (fun j k a hk ha => Or.inr (by
      show ∃ a', XSh_fewestExplaining_l7 (j + 1) (nI (2 * n)) (nI m) (nI could) (of_e a) (nI k) s = XSh_fewestExplaining_l7 j (nI (2 * n)) (nI m) (nI could) (of_e a') (nI (k + 1)) s ∧ _
      have hch := td_chlt hB k
      have hlt : ∀ c, a = some c → c < 65536 := fun c hc => by
        obtain ⟨-, ch, -, e⟩ := ha.1 c hc
        rw [e]
        exact td_chlt hB ch
      have hsub := x_sublt hch could
      rw [XSh_fewestExplaining_l7, x_shl m (by omega), if_neg (by rw [z_le (by omega) (by omega)]; omega), X_chosen hl h hX hn hm hB (show k < 1024 by omega), z_1]
      simp only [x_not hch, z_eq0 (show x_sub (td_ch B n m k) could < 2147483648 by omega)]
      by_cases c1 : x_sub (td_ch B n m k) could = 0
      · rw [if_pos c1]
        have hin := (td_sub0 hch).mp c1
        cases a with
        | none =>
          refine ⟨some (td_ch B n m k), by rw [if_pos (show of_e none = -2 from rfl)]; rfl, fun c hc => ?_, fun ch q1 q2 => ?_⟩
          · have e : td_ch B n m k = c := by simpa using hc
            rw [← e]
            exact ⟨hin, k, hk, rfl⟩
          · refine ⟨_, rfl, ?_⟩
            by_cases e : ch = k
            · subst e; exact Nat.le_refl _
            · obtain ⟨d, e2, -⟩ := ha.2 ch (by omega) q2
              cases e2
        | some c0 =>
          have hc0 := hlt c0 rfl
          have hp1 : x_pop (td_ch B n m k) ≤ 16 := fb_ct_le _ _
          have hp2 : x_pop c0 ≤ 16 := fb_ct_le _ _
          have hne : ¬ of_e (some c0) = -2 := by rw [of_e_lt hlt]; simp
          rw [if_neg hne]
          have hf : (XSh_isFewer (nI (td_ch B n m k)) (of_e (some c0)) s = 0) = ¬ (td_ky (td_ch B n m k) < td_ky c0) := by
            unfold XSh_isFewer
            rw [show of_e (some c0) = nI c0 from rfl, x_bc hch, x_bc hc0]
            simp only [s_neg (show x_pop (td_ch B n m k) < 1073741824 by omega) (show x_pop c0 < 1073741824 by omega), zs_eq (show x_pop (td_ch B n m k) < 1073741824 by omega) (show x_pop c0 < 1073741824 by omega), z_le (show c0 < 2147483648 by omega) (show td_ch B n m k < 2147483648 by omega)]
            unfold td_ky
            by_cases d1 : x_pop (td_ch B n m k) < x_pop c0 <;> by_cases d2 : x_pop (td_ch B n m k) = x_pop c0 <;> by_cases d3 : c0 ≤ td_ch B n m k <;> simp [d1, d2, d3] <;> omega
          simp only [hf]
          by_cases d : td_ky (td_ch B n m k) < td_ky c0
          · refine ⟨some (td_ch B n m k), by rw [if_neg (not_not_intro d)]; rfl, fun c hc => ?_, fun ch q1 q2 => ⟨_, rfl, ?_⟩⟩
            · have e : td_ch B n m k = c := by simpa using hc
              rw [← e]
              exact ⟨hin, k, hk, rfl⟩
            · by_cases e : ch = k
              · subst e; exact Nat.le_refl _
              · obtain ⟨d2, e2, e3⟩ := ha.2 ch (by omega) q2
                cases e2
                omega
          · refine ⟨some c0, by rw [if_pos d], ha.1, fun ch q1 q2 => ?_⟩
            by_cases e : ch = k
            · subst e; exact ⟨c0, rfl, by omega⟩
            · exact ha.2 ch (by omega) q2
      · rw [if_neg c1]
        refine ⟨a, rfl, ha.1, fun ch q1 q2 => ?_⟩
        by_cases e : ch = k
        · subst e; exact absurd ((td_sub0 hch).mpr q2) c1
        · exact ha.2 ch (by omega) q2)) 70000 0 none (Nat.zero_le _) ⟨fun c hc => (by cases hc), fun ch q => absurd q (Nat.not_lt_zero _)⟩ (by omega)
  have g1 : XSh_fewestExplaining_l7 70000 (nI (2 * n)) (nI m) (nI could) (-2) 0 s = some v := g1
  obtain ⟨b, e, q⟩ := g2
  rw [g1, e]
  exact ⟨b, rfl, q⟩
theorem M_expl_eq {s : ax_S} {n m set : Nat} {B : Nat → Nat} (hM : ∀ k, s.2.1 67 k &&& 255 = nI (B k)) (hn : n ≤ 12) (hm : m ≤ 10) (hs : set < 65536) (hB : ∀ k, k < m → B (2 * n + 2 * k) < 16 ∧ B (2 * n + 2 * k + 1) < 16) : (M_explains (nI set) (nI n) (nI m) s = some 1 ∧ td_ex B n m set) ∨ (M_explains (nI set) (nI n) (nI m) s = some 0 ∧ ¬ td_ex B n m set) := by
  unfold M_explains
  obtain ⟨v, g1, g2⟩ := z_for (fun j k (_ : Unit) => M_explains_l3 j (nI set) (nI n) (nI m) (nI k) s) m (fun k _ => ∀ i, i < k → set.testBit (B (2 * n + 2 * i)) = true ∨ set.testBit (B (2 * n + 2 * i + 1)) = true) (fun v => (v = 1 ∧ td_ex B n m set) ∨ (v = 0 ∧ ¬ td_ex B n m set)) (fun j _ ha => ⟨1, by
      show M_explains_l3 (j + 1) (nI set) (nI n) (nI m) (nI m) s = some 1
      rw [M_explains_l3]
      exact if_pos (Int32.le_refl _), Or.inl ⟨rfl, ha⟩⟩) (fun j k _ hk ha => by
      show (∃ b, M_explains_l3 (j + 1) (nI set) (nI n) (nI m) (nI k) s = some b ∧ _) ∨ ∃ _ : Unit, M_explains_l3 (j + 1) (nI set) (nI n) (nI m) (nI k) s = M_explains_l3 j (nI set) (nI n) (nI m) (nI (k + 1)) s ∧ _
      have hb := hB k hk
      rw [M_explains_l3, if_neg (by rw [z_le (by omega) (by omega)]; omega), q_2, pk_mul, pk_mul, nI_add, MB hM (by omega), z_1, z_1, MB hM (by omega)]
      simp only [M_has_eq (show set < 2147483648 by omega) (show B (2 * n + 2 * k) < 32 by omega), M_has_eq (show set < 2147483648 by omega) (show B (2 * n + 2 * k + 1) < 32 by omega)]
      by_cases c1 : set.testBit (B (2 * n + 2 * k)) = false
      · rw [if_pos c1]
        by_cases c2 : set.testBit (B (2 * n + 2 * k + 1)) = false
        · rw [if_pos c2]
          refine Or.inl ⟨0, rfl, Or.inr ⟨rfl, fun q => ?_⟩⟩
          rcases q k hk with r | r
          · rw [c1] at r; cases r
          · rw [c2] at r; cases r
        · rw [if_neg c2]
          refine Or.inr ⟨(), rfl, fun i hi => ?_⟩
          rcases Nat.lt_or_eq_of_le (Nat.lt_succ_iff.mp hi) with q | rfl
          · exact ha i q
          · exact Or.inr (by simpa using c2)
      · rw [if_neg c1]
        refine Or.inr ⟨(), rfl, fun i hi => ?_⟩
        rcases Nat.lt_or_eq_of_le (Nat.lt_succ_iff.mp hi) with q | rfl
        · exact ha i q
        · exact Or.inl (by simpa using c1)) 70000 0 () (Nat.zero_le _) (fun i hi => absurd hi (Nat.not_lt_zero _)) (by omega)
  have g1 : M_explains_l3 70000 (nI set) (nI n) (nI m) 0 s = some v := g1
  rw [g1]
  rcases g2 with ⟨rfl, q⟩ | ⟨rfl, q⟩
  · exact Or.inl ⟨rfl, q⟩
  · exact Or.inr ⟨rfl, q⟩
theorem M_few_eq {s : ax_S} {n m could : Nat} {B : Nat → Nat} (hM : ∀ k, s.2.1 67 k &&& 255 = nI (B k)) (hn : n ≤ 12) (hm : m ≤ 10) (hc : could < 65536) (hB : ∀ k, k < m → B (2 * n + 2 * k) < 16 ∧ B (2 * n + 2 * k + 1) < 16) (x4 : Int32) : ∃ b : Option Nat, M_told_l160 70000 (nI n) (nI m) x4 (nI could) (-2) 0 s = some (of_e b) ∧ td_b (fun set => td_in set could ∧ td_ex B n m set) b := by
  obtain ⟨v, g1, g2⟩ := z_for (fun j k (a : Option Nat) => M_told_l160 j (nI n) (nI m) x4 (nI could) (of_e a) (nI k) s) (could + 1) (fun k b => (∀ c, b = some c → (td_in c could ∧ td_ex B n m c) ∧ c < k) ∧ ∀ c, c < k → (td_in c could ∧ td_ex B n m c) → ∃ d, b = some d ∧ td_ky d ≤ td_ky c) (fun v => ∃ b : Option Nat, v = of_e b ∧ td_b (fun set => td_in set could ∧ td_ex B n m set) b) (fun j a ha => ⟨of_e a, by
      show M_told_l160 (j + 1) (nI n) (nI m) x4 (nI could) (of_e a) (nI (could + 1)) s = some (of_e a)
      rw [M_told_l160]
      exact if_pos (by rw [z_lt (by omega) (by omega)]; omega), a, rfl, fun c hc => ⟨(ha.1 c hc).1, by have := (ha.1 c hc).2; omega⟩, fun c hc => ha.2 c (by have := x_le hc.1; omega) hc⟩) (fun j k a hk ha => Or.inr (by
      show ∃ a', M_told_l160 (j + 1) (nI n) (nI m) x4 (nI could) (of_e a) (nI k) s = M_told_l160 j (nI n) (nI m) x4 (nI could) (of_e a') (nI (k + 1)) s ∧ _
      have hk6 : k < 65536 := by omega
      have hlt : ∀ c, a = some c → c < 65536 := fun c hc => by have := (ha.1 c hc).2; omega
      have hsub := x_sublt hk6 could
      have hskip : ¬ (td_in k could ∧ td_ex B n m k) ∨ (∃ d, a = some d ∧ td_ky d ≤ td_ky k) → ∃ a', M_told_l160 j (nI n) (nI m) x4 (nI could) (of_e a) (nI (k + 1)) s = M_told_l160 j (nI n) (nI m) x4 (nI could) (of_e a') (nI (k + 1)) s ∧ ((∀ c, a' = some c → (td_in c could ∧ td_ex B n m c) ∧ c < k + 1) ∧ ∀ c, c < k + 1 → (td_in c could ∧ td_ex B n m c) → ∃ d, a' = some d ∧ td_ky d ≤ td_ky c) := fun q => ⟨a, rfl, fun c hc => ⟨(ha.1 c hc).1, Nat.lt_succ_of_lt (ha.1 c hc).2⟩, fun c q1 q2 => by
        rcases Nat.lt_or_eq_of_le (Nat.lt_succ_iff.mp q1) with r | rfl
        · exact ha.2 c r q2
        · rcases q with q | q
          · exact absurd q2 q
          · exact q⟩
      have htake : td_in k could → td_ex B n m k → (∀ d, a = some d → td_ky k ≤ td_ky d) → ∃ a', M_told_l160 j (nI n) (nI m) x4 (nI could) (nI k) (nI (k + 1)) s = M_told_l160 j (nI n) (nI m) x4 (nI could) (of_e a') (nI (k + 1)) s ∧ ((∀ c, a' = some c → (td_in c could ∧ td_ex B n m c) ∧ c < k + 1) ∧ ∀ c, c < k + 1 → (td_in c could ∧ td_ex B n m c) → ∃ d, a' = some d ∧ td_ky d ≤ td_ky c) := fun r1 r2 r3 => ⟨some k, rfl, fun c hc => by
        have e : k = c := by simpa using hc
        rw [← e]
        exact ⟨⟨r1, r2⟩, Nat.lt_succ_self k⟩, fun c q1 q2 => ⟨k, rfl, by
        rcases Nat.lt_or_eq_of_le (Nat.lt_succ_iff.mp q1) with r | rfl
        · obtain ⟨d, e1, e2⟩ := ha.2 c r q2
          exact Nat.le_trans (r3 d e1) e2
        · exact Nat.le_refl _⟩⟩
      rw [M_told_l160, if_neg (by rw [z_lt (by omega) (by omega)]; exact Nat.not_lt.mpr (Nat.lt_succ_iff.mp hk)), z_1]
      simp only [x_not hk6, z_eq0 (Nat.lt_trans hsub (by decide))]
      by_cases c1 : x_sub k could = 0
      · rw [if_pos c1]
        have hin := (td_sub0 hk6).mp c1
        cases a with
        | none =>
          rw [if_pos (show of_e none = -2 from rfl)]
          rcases M_expl_eq hM hn hm hk6 hB with ⟨p1, p2⟩ | ⟨p1, p2⟩
          · rw [p1]
            exact htake hin p2 fun d hd => by cases hd
          · rw [p1]
            exact hskip (Or.inl fun q => p2 q.2)
        | some c0 =>
          have hc0 := hlt c0 rfl
          have hc0k := (ha.1 c0 rfl).2
          have hp1 : x_pop k ≤ 16 := fb_ct_le _ _
          have hp2 : x_pop c0 ≤ 16 := fb_ct_le _ _
          have hne : ¬ of_e (some c0) = -2 := by rw [of_e_lt hlt]; simp
          rw [if_neg hne, M_bits_eq hk6, show of_e (some c0) = nI c0 from rfl, M_bits_eq hc0]
          simp only [z_le (Nat.lt_of_le_of_lt hp2 (by decide)) (Nat.lt_of_le_of_lt hp1 (by decide))]
          by_cases d1 : x_pop c0 ≤ x_pop k
          · rw [if_pos d1]
            refine hskip (Or.inr ⟨c0, rfl, ?_⟩)
            clear hskip htake
            unfold td_ky
            omega
          · rw [if_neg d1]
            rcases M_expl_eq hM hn hm hk6 hB with ⟨p1, p2⟩ | ⟨p1, p2⟩
            · rw [p1]
              refine htake hin p2 fun d hd => ?_
              have e : c0 = d := by simpa using hd
              subst e
              clear hskip htake
              unfold td_ky
              omega
            · rw [p1]
              exact hskip (Or.inl fun q => p2 q.2)
      · rw [if_neg c1]
        exact hskip (Or.inl fun q => c1 ((td_sub0 hk6).mpr q.1)))) 70000 0 none (Nat.zero_le _) ⟨fun c hc => (by cases hc), fun c q => absurd q (Nat.not_lt_zero _)⟩ (by omega)
  have g1 : M_told_l160 70000 (nI n) (nI m) x4 (nI could) (-2) 0 s = some v := g1
  obtain ⟨b, e, q⟩ := g2
  rw [e] at g1
  exact ⟨b, g1, q⟩
