/-! offcuts and frames -/
theorem z_innX {x : Int32} {s : ax_S} {n : Nat} (a b : Nat) (ha : a < 2147483648) (hb : b < 2147483648) (h1 : a ≤ n) (h2 : n ≤ b) : ¬ M_in (nI n) (nI a) (nI b) s = 0 := by
  unfold M_in
  simp (disch := omega) only [z_lt, z_nlt, if_false]
  decide
/-! offcuts: the best so far as Option Nat -/
def of_e : Option Nat → Int32
  | none => -2
  | some b => nI b
def of_sum (B : Nat → Nat) (set : Nat) : Nat → Nat
  | 0 => 0
  | n + 1 => of_sum B set n + (if set.testBit n = true then B n else 0)
theorem of_sum_le (B : Nat → Nat) (hB : ∀ k, B k < 256) (set : Nat) : ∀ n, of_sum B set n ≤ 256 * n
  | 0 => by simp [of_sum]
  | n + 1 => by
    rw [of_sum]
    have := of_sum_le B hB set n
    have := hB n
    split <;> omega
def of_b (B : Nat → Nat) (n len set : Nat) (b : Option Nat) : Option Nat := if of_sum B set n = len then (match b with
  | none => some set
  | some c => if x_pop set < x_pop c then some set else some c) else b
theorem X_len_eq {s : ax_S} {l n set : Nat} {B : Nat → Nat} (hl : l ≤ 260) (h : s.2.1 1 1 = nI l) (hX : ∀ k, k < l → s.2.1 2 k = nI (B k)) (hn : n ≤ l) (hn8 : n ≤ 8) (hs : set < 65536) : XSh_lengthOf (nI set) (nI n) s = some (nI (of_sum B set n)) := by
  unfold XSh_lengthOf
  obtain ⟨b, g1, g2⟩ := z_for (fun m k (a : Int32) => XSh_lengthOf_l5 m (nI set) (nI n) a (nI k) s) n (fun k a => a = nI (of_sum B set k)) (fun a => a = nI (of_sum B set n)) (fun m a ha => ⟨a, by
      show XSh_lengthOf_l5 (m + 1) (nI set) (nI n) a (nI n) s = some a
      rw [XSh_lengthOf_l5]
      exact if_pos (Int32.le_refl _), ha⟩) (fun m k a hk ha => Or.inr ⟨nI (of_sum B set (k + 1)), by
      show XSh_lengthOf_l5 (m + 1) (nI set) (nI n) a (nI k) s = XSh_lengthOf_l5 m (nI set) (nI n) (nI (of_sum B set (k + 1))) (nI (k + 1)) s
      rw [XSh_lengthOf_l5, if_neg (by rw [z_le (by omega) (by omega)]; omega), XB hl h hX (show k < l by omega), z_1, ha, of_sum]
      simp only [x_has (show set < 2147483648 by omega) (show k < 32 by omega)]
      by_cases c : set.testBit k = true
      · rw [if_pos c, if_pos c, nI_add]
      · rw [if_neg c, if_neg c, Nat.add_zero (of_sum B set k)], rfl⟩) 70000 0 0 (Nat.zero_le _) rfl (by omega)
  have g1 : XSh_lengthOf_l5 70000 (nI set) (nI n) 0 0 s = some b := g1
  rw [g1, g2]
theorem M_len_eq {s : ax_S} {n set : Nat} {B : Nat → Nat} (hM : ∀ k, s.2.1 67 k &&& 255 = nI (B k)) (hn8 : n ≤ 8) (hs : set < 65536) (x2 x3 x4 : Int32) : M_offcuts_l99 70000 (nI n) x2 x3 x4 (nI set) 0 0 s = some (nI (of_sum B set n)) := by
  obtain ⟨b, g1, g2⟩ := z_for (fun m k (a : Int32) => M_offcuts_l99 m (nI n) x2 x3 x4 (nI set) a (nI k) s) n (fun k a => a = nI (of_sum B set k)) (fun a => a = nI (of_sum B set n)) (fun m a ha => ⟨a, by
      show M_offcuts_l99 (m + 1) (nI n) x2 x3 x4 (nI set) a (nI n) s = some a
      rw [M_offcuts_l99]
      exact if_pos (Int32.le_refl _), ha⟩) (fun m k a hk ha => Or.inr ⟨nI (of_sum B set (k + 1)), by
      show M_offcuts_l99 (m + 1) (nI n) x2 x3 x4 (nI set) a (nI k) s = M_offcuts_l99 m (nI n) x2 x3 x4 (nI set) (nI (of_sum B set (k + 1))) (nI (k + 1)) s
      rw [M_offcuts_l99, if_neg (by rw [z_le (by omega) (by omega)]; omega), MB hM (by omega), z_1, ha, of_sum]
      simp only [M_has_eq (show set < 2147483648 by omega) (show k < 32 by omega)]
      by_cases c : set.testBit k = true
      · rw [if_neg (by simp [c]), if_pos c, nI_add]
      · rw [if_pos (by simpa using c), if_neg c, Nat.add_zero (of_sum B set k)], rfl⟩) 70000 0 0 (Nat.zero_le _) rfl (by omega)
  rw [g2] at g1
  exact g1
theorem of_e_lt {b : Option Nat} (h : ∀ c, b = some c → c < 65536) : (of_e b = -2) = (b = none) := by
  cases b with
  | none => simp [of_e]
  | some c =>
    have hc := h c rfl
    have : ¬ (nI c : Int32) = -2 := fun e => by
      have e2 : (nI c).toInt = (-2 : Int32).toInt := by rw [e]
      rw [nI_toInt (by omega)] at e2
      have : (-2 : Int32).toInt = -2 := rfl
      omega
    simp [of_e, this]
theorem X_best_eq {s : ax_S} {l n len : Nat} {B : Nat → Nat} (hB : ∀ k, B k < 256) (hl : l ≤ 260) (h : s.2.1 1 1 = nI l) (hX : ∀ k, k < l → s.2.1 2 k = nI (B k)) (hn : n ≤ l) (hn8 : n ≤ 8) (hlen : len ≤ 240) : ∃ b : Option Nat, b = z_it (fun k b => of_b B n len (k + 1) b) (2 ^ n - 1) none ∧ XSh_fitOffcuts_l45 70000 (nI n) (nI len) (-2) 1 s = some (of_e b) ∧ ∀ c, b = some c → 1 ≤ c ∧ c < 256 := by
  have hp : 2 ^ n ≤ 256 := Nat.pow_le_pow_right (by omega) (show n ≤ 8 from hn8)
  have hp1 : 1 ≤ 2 ^ n := Nat.one_le_two_pow
  obtain ⟨b, g1, g2⟩ := z_for (fun m k (a : Option Nat) => XSh_fitOffcuts_l45 m (nI n) (nI len) (of_e a) (nI (k + 1)) s) (2 ^ n - 1) (fun k a => a = z_it (fun k b => of_b B n len (k + 1) b) k none ∧ ∀ c, a = some c → 1 ≤ c ∧ c ≤ k) (fun v => ∃ b : Option Nat, b = z_it (fun k b => of_b B n len (k + 1) b) (2 ^ n - 1) none ∧ v = of_e b ∧ ∀ c, b = some c → 1 ≤ c ∧ c < 256) (fun m a ha => ⟨of_e a, by
      show XSh_fitOffcuts_l45 (m + 1) (nI n) (nI len) (of_e a) (nI (2 ^ n - 1 + 1)) s = some (of_e a)
      rw [XSh_fitOffcuts_l45, x_shl n (by omega), show 2 ^ n - 1 + 1 = 2 ^ n by omega]
      exact if_pos (Int32.le_refl _), a, ha.1, rfl, fun c hc => ⟨(ha.2 c hc).1, by have := (ha.2 c hc).2; omega⟩⟩) (fun m k a hk ha => Or.inr ⟨of_b B n len (k + 1) a, by
      show XSh_fitOffcuts_l45 (m + 1) (nI n) (nI len) (of_e a) (nI (k + 1)) s = XSh_fitOffcuts_l45 m (nI n) (nI len) (of_e (of_b B n len (k + 1) a)) (nI (k + 1 + 1)) s
      rw [XSh_fitOffcuts_l45, x_shl n (by omega), if_neg (by rw [z_le (by omega) (by omega)]; omega), X_len_eq hl h hX hn hn8 (show k + 1 < 65536 by omega), z_1]
      have hs := of_sum_le B hB (k + 1) n
      unfold XSh_fitOffcuts_j56 of_b
      simp only [z_eq (show of_sum B (k + 1) n < 2147483648 by omega) (show len < 2147483648 by omega)]
      have hlt : ∀ c, a = some c → c < 65536 := fun c hc => by have := (ha.2 c hc).2; omega
      cases a with
      | none =>
        rw [if_pos (show of_e none = -2 from rfl), if_neg (by decide)]
        split <;> rfl
      | some c =>
        have hc := hlt c rfl
        have hne : ¬ of_e (some c) = -2 := by rw [of_e_lt hlt]; simp
        simp only [hne, if_false]
        rw [x_bc (show k + 1 < 65536 by omega)]
        show _ = XSh_fitOffcuts_l45 m (nI n) (nI len) (of_e (if of_sum B (k + 1) n = len then (if x_pop (k + 1) < x_pop c then some (k + 1) else some c) else some c)) _ s
        rw [show of_e (some c) = nI c from rfl, x_bc hc]
        have hp1 : x_pop (k + 1) ≤ 16 := fb_ct_le _ _
        have hp2 : x_pop c ≤ 16 := fb_ct_le _ _
        simp only [z_le (show x_pop c < 2147483648 by omega) (show x_pop (k + 1) < 2147483648 by omega)]
        by_cases d1 : x_pop c ≤ x_pop (k + 1)
        · rw [if_pos d1, if_pos rfl]
          by_cases d2 : of_sum B (k + 1) n = len
          · rw [if_pos d2, if_neg (by omega)]; rfl
          · rw [if_neg d2]; rfl
        · rw [if_neg d1, if_neg (by decide)]
          by_cases d2 : of_sum B (k + 1) n = len
          · rw [if_pos d2, if_pos d2, if_pos (by omega)]; rfl
          · rw [if_neg d2, if_neg d2]; rfl, by rw [ha.1]; rfl, fun c hc => by
      unfold of_b at hc
      split at hc
      · cases a with
        | none =>
          have e : k + 1 = c := by simpa using hc
          omega
        | some d =>
          have h2 := ha.2 d rfl
          have e : (if x_pop (k + 1) < x_pop d then some (k + 1) else some d) = some c := hc
          split at e
          · have : k + 1 = c := by simpa using e
            omega
          · have : d = c := by simpa using e
            omega
      · have := ha.2 c hc; omega⟩) 70000 0 none (Nat.zero_le _) ⟨rfl, fun c hc => by cases hc⟩ (by omega)
  have g1 : XSh_fitOffcuts_l45 70000 (nI n) (nI len) (-2) 1 s = some b := g1
  obtain ⟨b', p1, p2, p3⟩ := g2
  exact ⟨b', p1, by rw [g1, p2], p3⟩
theorem M_best_eq {s : ax_S} {n len : Nat} {B : Nat → Nat} (hB : ∀ k, B k < 256) (hM : ∀ k, s.2.1 67 k &&& 255 = nI (B k)) (hn8 : n ≤ 8) (hlen : len ≤ 240) (x3 : Int32) : M_offcuts_l85 70000 (nI n) (nI len) x3 (-2) 1 s = some (of_e (z_it (fun k b => of_b B n len (k + 1) b) (2 ^ n - 1) none)) := by
  have hp : 2 ^ n ≤ 256 := Nat.pow_le_pow_right (by omega) (show n ≤ 8 from hn8)
  have hp1 : 1 ≤ 2 ^ n := Nat.one_le_two_pow
  obtain ⟨b, g1, g2⟩ := z_for (fun m k (a : Option Nat) => M_offcuts_l85 m (nI n) (nI len) x3 (of_e a) (nI (k + 1)) s) (2 ^ n - 1) (fun k a => a = z_it (fun k b => of_b B n len (k + 1) b) k none ∧ ∀ c, a = some c → c < 65536) (fun v => v = of_e (z_it (fun k b => of_b B n len (k + 1) b) (2 ^ n - 1) none)) (fun m a ha => ⟨of_e a, by
      show M_offcuts_l85 (m + 1) (nI n) (nI len) x3 (of_e a) (nI (2 ^ n - 1 + 1)) s = some (of_e a)
      rw [M_offcuts_l85, x_shl n (by omega), show 2 ^ n - 1 + 1 = 2 ^ n by omega]
      exact if_pos (Int32.le_refl _), by rw [ha.1]⟩) (fun m k a hk ha => Or.inr ⟨of_b B n len (k + 1) a, by
      show M_offcuts_l85 (m + 1) (nI n) (nI len) x3 (of_e a) (nI (k + 1)) s = M_offcuts_l85 m (nI n) (nI len) x3 (of_e (of_b B n len (k + 1) a)) (nI (k + 1 + 1)) s
      rw [M_offcuts_l85, x_shl n (by omega), if_neg (by rw [z_le (by omega) (by omega)]; omega), M_len_eq hM hn8 (show k + 1 < 65536 by omega), z_1]
      have hs := of_sum_le B hB (k + 1) n
      unfold of_b
      simp only [z_eq (show of_sum B (k + 1) n < 2147483648 by omega) (show len < 2147483648 by omega)]
      cases a with
      | none =>
        rw [if_pos (show of_e none = -2 from rfl)]
        split <;> rfl
      | some c =>
        have hc := ha.2 c rfl
        have hne : ¬ of_e (some c) = -2 := by rw [of_e_lt ha.2]; simp
        simp only [hne, if_false]
        rw [M_bits_eq (show k + 1 < 65536 by omega)]
        show _ = M_offcuts_l85 m (nI n) (nI len) x3 (of_e (if of_sum B (k + 1) n = len then (if x_pop (k + 1) < x_pop c then some (k + 1) else some c) else some c)) _ s
        rw [show of_e (some c) = nI c from rfl, M_bits_eq hc]
        have hp1 : x_pop (k + 1) ≤ 16 := fb_ct_le _ _
        have hp2 : x_pop c ≤ 16 := fb_ct_le _ _
        simp only [z_le (show x_pop c < 2147483648 by omega) (show x_pop (k + 1) < 2147483648 by omega)]
        by_cases d2 : of_sum B (k + 1) n = len
        · rw [if_pos d2, if_pos d2]
          by_cases d1 : x_pop c ≤ x_pop (k + 1)
          · rw [if_pos d1, if_neg (by omega)]; rfl
          · rw [if_neg d1, if_pos (by omega)]; rfl
        · rw [if_neg d2, if_neg d2]; rfl, by rw [ha.1]; rfl, fun c hc => by
      unfold of_b at hc
      split at hc
      · cases a with
        | none =>
          have e : k + 1 = c := by simpa using hc
          omega
        | some d =>
          have h2 := ha.2 d rfl
          have e : (if x_pop (k + 1) < x_pop d then some (k + 1) else some d) = some c := hc
          split at e
          · have : k + 1 = c := by simpa using e
            omega
          · have : d = c := by simpa using e
            omega
      · exact ha.2 c hc⟩) 70000 0 none (Nat.zero_le _) ⟨rfl, fun c hc => by cases hc⟩ (by omega)
  have g1 : M_offcuts_l85 70000 (nI n) (nI len) x3 (-2) 1 s = some b := g1
  rw [g1, g2]
theorem X_fit_eq {s : ax_S} {l n : Nat} {B : Nat → Nat} (hB : ∀ k, B k < 256) (hl : l ≤ 260) (h : s.2.1 1 1 = nI l) (hX : ∀ k, k < l → s.2.1 2 k = nI (B k)) (hn : n ≤ l) (x2 : Int32) : (XSh_fitOffcuts_l2 70000 (nI n) x2 0 s = some (.inl ()) ∧ ∀ k, k < n → 1 ≤ B k ∧ B k ≤ 60) ∨ (XSh_fitOffcuts_l2 70000 (nI n) x2 0 s = some (.inr (-3)) ∧ ∃ k, k < n ∧ ¬ (1 ≤ B k ∧ B k ≤ 60)) := by
  obtain ⟨b, g1, g2⟩ := z_for (fun m k (_ : Unit) => XSh_fitOffcuts_l2 m (nI n) x2 (nI k) s) n (fun k _ => ∀ i, i < k → 1 ≤ B i ∧ B i ≤ 60) (fun v => (v = .inl () ∧ ∀ k, k < n → 1 ≤ B k ∧ B k ≤ 60) ∨ (v = .inr (-3) ∧ ∃ k, k < n ∧ ¬ (1 ≤ B k ∧ B k ≤ 60))) (fun m _ ha => ⟨.inl (), by
      show XSh_fitOffcuts_l2 (m + 1) (nI n) x2 (nI n) s = _
      rw [XSh_fitOffcuts_l2]
      exact if_pos (Int32.le_refl _), Or.inl ⟨rfl, ha⟩⟩) (fun m k _ hk ha => by
      show (∃ b, XSh_fitOffcuts_l2 (m + 1) (nI n) x2 (nI k) s = some b ∧ _) ∨ ∃ _ : Unit, XSh_fitOffcuts_l2 (m + 1) (nI n) x2 (nI k) s = XSh_fitOffcuts_l2 m (nI n) x2 (nI (k + 1)) s ∧ _
      have hb := hB k
      rw [XSh_fitOffcuts_l2, if_neg (by rw [z_le (by omega) (by omega)]; omega), XB hl h hX (show k < l by omega), z_1]
      simp only [q_1, q_60, z_lt (show B k < 2147483648 by omega) (show 1 < 2147483648 by omega), z_le (show B k < 2147483648 by omega) (show 60 < 2147483648 by omega)]
      by_cases c1 : B k < 1
      · rw [if_pos c1]; exact Or.inl ⟨_, rfl, Or.inr ⟨rfl, k, hk, by omega⟩⟩
      · rw [if_neg c1]
        by_cases c2 : B k ≤ 60
        · rw [if_pos c2]
          refine Or.inr ⟨(), rfl, fun i hi => ?_⟩
          rcases Nat.lt_or_eq_of_le (Nat.lt_succ_iff.mp hi) with q | rfl
          · exact ha i q
          · omega
        · rw [if_neg c2]; exact Or.inl ⟨_, rfl, Or.inr ⟨rfl, k, hk, by omega⟩⟩) 70000 0 () (Nat.zero_le _) (fun i hi => absurd hi (Nat.not_lt_zero _)) (by omega)
  have g1 : XSh_fitOffcuts_l2 70000 (nI n) x2 0 s = some b := g1
  rcases g2 with ⟨rfl, q⟩ | ⟨rfl, q⟩
  · exact Or.inl ⟨g1, q⟩
  · exact Or.inr ⟨g1, q⟩
theorem M_fit_eq {s : ax_S} {n : Nat} {B : Nat → Nat} (hB : ∀ k, B k < 256) (hM : ∀ k, s.2.1 67 k &&& 255 = nI (B k)) (hn : n ≤ 8) (x2 x3 : Int32) : (M_offcuts_l48 70000 (nI n) x2 x3 0 s = some (.inl ()) ∧ ∀ k, k < n → 1 ≤ B k ∧ B k ≤ 60) ∨ (M_offcuts_l48 70000 (nI n) x2 x3 0 s = some (.inr (-3, s)) ∧ ∃ k, k < n ∧ ¬ (1 ≤ B k ∧ B k ≤ 60)) := by
  obtain ⟨b, g1, g2⟩ := z_for (fun m k (_ : Unit) => M_offcuts_l48 m (nI n) x2 x3 (nI k) s) n (fun k _ => ∀ i, i < k → 1 ≤ B i ∧ B i ≤ 60) (fun v => (v = .inl () ∧ ∀ k, k < n → 1 ≤ B k ∧ B k ≤ 60) ∨ (v = .inr (-3, s) ∧ ∃ k, k < n ∧ ¬ (1 ≤ B k ∧ B k ≤ 60))) (fun m _ ha => ⟨.inl (), by
      show M_offcuts_l48 (m + 1) (nI n) x2 x3 (nI n) s = _
      rw [M_offcuts_l48]
      exact if_pos (Int32.le_refl _), Or.inl ⟨rfl, ha⟩⟩) (fun m k _ hk ha => by
      show (∃ b, M_offcuts_l48 (m + 1) (nI n) x2 x3 (nI k) s = some b ∧ _) ∨ ∃ _ : Unit, M_offcuts_l48 (m + 1) (nI n) x2 x3 (nI k) s = M_offcuts_l48 m (nI n) x2 x3 (nI (k + 1)) s ∧ _
      have hb := hB k
      rw [M_offcuts_l48, if_neg (by rw [z_le (by omega) (by omega)]; omega), MB hM (by omega), z_1]
      unfold M_in
      simp only [q_1, q_60, z_lt (show B k < 2147483648 by omega) (show 1 < 2147483648 by omega), z_lt (show 60 < 2147483648 by omega) (show B k < 2147483648 by omega)]
      by_cases c1 : B k < 1
      · rw [if_pos c1, if_pos rfl]; exact Or.inl ⟨_, rfl, Or.inr ⟨rfl, k, hk, by omega⟩⟩
      · rw [if_neg c1]
        by_cases c2 : 60 < B k
        · rw [if_pos c2, if_pos rfl]; exact Or.inl ⟨_, rfl, Or.inr ⟨rfl, k, hk, by omega⟩⟩
        · rw [if_neg c2, if_neg (by decide)]
          refine Or.inr ⟨(), rfl, fun i hi => ?_⟩
          rcases Nat.lt_or_eq_of_le (Nat.lt_succ_iff.mp hi) with q | rfl
          · exact ha i q
          · omega) 70000 0 () (Nat.zero_le _) (fun i hi => absurd hi (Nat.not_lt_zero _)) (by omega)
  have g1 : M_offcuts_l48 70000 (nI n) x2 x3 0 s = some b := g1
  rcases g2 with ⟨rfl, q⟩ | ⟨rfl, q⟩
  · exact Or.inl ⟨g1, q⟩
  · exact Or.inr ⟨g1, q⟩
theorem y_clr {s : ax_S} (h : y_inv s.2.1) : y_inv (ax_sI (XTa_clear s) 63 5 0).2.1 := by
  unfold XTa_clear
  exact y_emp h (by rw [r_I (by omega), r_Ie, r_u]) (by rw [r_Ie, r_u]) fun c j k => r_two c j (by omega) (by omega)
theorem y_offcuts (x y w : Int32) (s : ax_S) (h : y_inv s.2.1) : y_sim (X_offcuts x y w) (M_offcuts x y w) s := by
  rcases z_inX (x := x) (s := s) 1 8 (by omega) (by omega) with h1 | ⟨h1, n, hn1, hn, rfl⟩
  · have h1 : M_in x 1 8 s = 0 := h1
    exact y_same h (-1) (by unfold X_offcuts; rw [X_within_eq, if_pos h1]) (by unfold M_offcuts; rw [if_pos h1])
  have a1 : ∀ t, ¬ M_in (nI n) 1 8 t = 0 := fun t => z_innX (x := 0) 1 8 (by omega) (by omega) hn1 hn
  rcases z_inX (x := y) (s := s) 1 240 (by omega) (by omega) with h2 | ⟨h2, len, hl1, hlen, rfl⟩
  · have h2 : M_in y 1 240 s = 0 := h2
    exact y_same h (-1) (by unfold X_offcuts; rw [X_within_eq, if_neg (a1 s), X_within_eq, if_pos h2]) (by unfold M_offcuts; rw [if_neg (a1 s), if_pos h2])
  have a2 : ∀ t, ¬ M_in (nI len) 1 240 t = 0 := fun t => z_innX (x := 0) 1 240 (by omega) (by omega) hl1 hlen
  rcases z_inX (x := w) (s := s) 0 1 (by omega) (by omega) with h3 | ⟨h3, k, -, hk, rfl⟩
  · have h3 : M_in w 0 1 s = 0 := h3
    exact y_same h (-1) (by unfold X_offcuts; rw [X_within_eq, if_neg (a1 s), X_within_eq, if_neg (a2 s), X_within_eq, if_pos h3]) (by unfold M_offcuts; rw [if_neg (a1 s), if_neg (a2 s), if_pos h3])
  have a3 : ∀ t, ¬ M_in (nI k) 0 1 t = 0 := fun t => z_innX (x := 0) 0 1 (by omega) (by omega) (Nat.zero_le _) hk
  obtain ⟨l, B, hl, e1, e2, eB, eX, eM⟩ := y_tpB h.2.2.2.1
  by_cases c : l < n
  · exact y_same h (-1) (by unfold X_offcuts; rw [X_within_eq, if_neg (a1 s), X_within_eq, if_neg (a2 s), X_within_eq, if_neg (a3 s), if_pos (by rw [X_holds_n hl (by omega) e1]; exact c)]) (by unfold M_offcuts; rw [if_neg (a1 s), if_neg (a2 s), if_neg (a3 s), e2, if_neg (by rw [z_le (by omega) (by omega)]; omega)])
  have m1 : (XTa_clear s).2.1 63 5 = nI l := by unfold XTa_clear; rw [r_I (by omega)]; exact e2
  have mM : ∀ k, (ax_sI (XTa_clear s) 63 5 0).2.1 67 k &&& 255 = nI (B k) := fun k => by unfold XTa_clear; rw [r_I (by omega), r_I (by omega)]; exact eM k
  have hm : nI n ≤ nI l := by rw [z_le (by omega) (by omega)]; omega
  rcases X_fit_eq eB hl e1 eX (show n ≤ l by omega) (nI len) with ⟨p1, p2⟩ | ⟨p1, p2⟩
  · rcases M_fit_eq eB mM hn (nI len) (nI k) with ⟨q1, q2⟩ | ⟨q1, q2⟩
    · obtain ⟨b, b1, b2, b3⟩ := X_best_eq eB hl e1 eX (show n ≤ l by omega) hn hlen
      have b4 := M_best_eq eB mM hn hlen (nI k)
      rw [← b1] at b4
      have hlt : ∀ c, b = some c → c < 65536 := fun c hc => by have := b3 c hc; omega
      have hk2 : k = 0 ∨ k = 1 := by omega
      cases b with
      | none =>
        refine ⟨-2, XTa_clear s, ax_sI (XTa_clear s) 63 5 0, ?_, ?_, y_clr h⟩
        · unfold X_offcuts XSh_fitOffcuts
          rw [X_within_eq, if_neg (a1 s), X_within_eq, if_neg (a2 s), X_within_eq, if_neg (a3 s), if_neg (by rw [X_holds_n hl (by omega) e1]; exact c), p1]
          simp only [b2]
          rcases hk2 with rfl | rfl
          · rfl
          · rfl
        · unfold M_offcuts
          rw [if_neg (a1 _), if_neg (a2 _), if_neg (a3 _), m1, if_pos hm, q1]
          simp only [b4]
          rcases hk2 with rfl | rfl
          · rfl
          · rfl
      | some v =>
        have hv := b3 v rfl
        rcases hk2 with rfl | rfl
        · refine ⟨nI (x_pop v), XTa_clear s, ax_sI (XTa_clear s) 63 5 0, ?_, ?_, y_clr h⟩
          · unfold X_offcuts XSh_fitOffcuts
            rw [X_within_eq, if_neg (a1 s), X_within_eq, if_neg (a2 s), X_within_eq, if_neg (a3 s), if_neg (by rw [X_holds_n hl (by omega) e1]; exact c), p1]
            simp only [b2]
            rw [if_pos (show nI 0 = 0 from rfl), if_neg (by show ¬ nI v ≤ 0; rw [z_le0 (by omega)]; omega)]
            show some (J_bitCount (nI v) _, _) = _
            rw [x_bc (by omega)]
          · unfold M_offcuts
            rw [if_neg (a1 _), if_neg (a2 _), if_neg (a3 _), m1, if_pos hm, q1]
            simp only [b4]
            rw [if_neg (show ¬ nI 0 = (1 : Int32) by decide), if_neg (by rw [of_e_lt hlt]; simp)]
            rw [show of_e (some v) = nI v from rfl, M_bits_eq (show v < 65536 by omega)]
        · refine ⟨nI v, XTa_clear s, ax_sI (XTa_clear s) 63 5 0, ?_, ?_, y_clr h⟩
          · unfold X_offcuts XSh_fitOffcuts
            rw [X_within_eq, if_neg (a1 s), X_within_eq, if_neg (a2 s), X_within_eq, if_neg (a3 s), if_neg (by rw [X_holds_n hl (by omega) e1]; exact c), p1]
            simp only [b2]
            rfl
          · unfold M_offcuts
            rw [if_neg (a1 _), if_neg (a2 _), if_neg (a3 _), m1, if_pos hm, q1]
            simp only [b4]
            rfl
    · obtain ⟨i, i1, i2⟩ := q2
      exact absurd (p2 i i1) i2
  · rcases M_fit_eq eB mM hn (nI len) (nI k) with ⟨q1, q2⟩ | ⟨q1, q2⟩
    · obtain ⟨i, i1, i2⟩ := p2
      exact absurd (q2 i i1) i2
    · refine ⟨-3, XTa_clear s, ax_sI (XTa_clear s) 63 5 0, ?_, ?_, y_clr h⟩
      · unfold X_offcuts XSh_fitOffcuts
        rw [X_within_eq, if_neg (a1 s), X_within_eq, if_neg (a2 s), X_within_eq, if_neg (a3 s), if_neg (by rw [X_holds_n hl (by omega) e1]; exact c), p1]
        have hk2 : k = 0 ∨ k = 1 := by omega
        rcases hk2 with rfl | rfl
        · rfl
        · rfl
      · unfold M_offcuts
        rw [if_neg (a1 _), if_neg (a2 _), if_neg (a3 _), m1, if_pos hm, q1]
