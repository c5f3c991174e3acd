/-! frames; mirror -/
theorem X_sizes_eq {s : ax_S} {l n : Nat} {B : Nat → Nat} (hl : l ≤ 260) (h : s.2.1 1 1 = nI l) (hX : ∀ k, k < l → s.2.1 2 k = nI (B k)) (hn : 2 * n ≤ l) (hn10 : n ≤ 10) : ∃ s', XSh_readSizes (nI n) s = some s' ∧ (∀ k, k < n → s'.2.1 60 k = nI (B (2 * k)) ∧ s'.2.1 61 k = nI (B (2 * k + 1))) ∧ (∀ c, c ≠ 60 → c ≠ 61 → s'.2.1 c = s.2.1 c) := by
  unfold XSh_readSizes
  obtain ⟨b, g1, g2⟩ := z_for (fun m k (a : ax_S) => XSh_readSizes_l2 m (nI n) (nI k) a) n (fun k a => (∀ i, i < k → a.2.1 60 i = nI (B (2 * i)) ∧ a.2.1 61 i = nI (B (2 * i + 1))) ∧ (∀ c, c ≠ 60 → c ≠ 61 → a.2.1 c = s.2.1 c)) (fun a => (∀ i, i < n → a.2.1 60 i = nI (B (2 * i)) ∧ a.2.1 61 i = nI (B (2 * i + 1))) ∧ (∀ c, c ≠ 60 → c ≠ 61 → a.2.1 c = s.2.1 c)) (fun m a ha => ⟨a, by
      show XSh_readSizes_l2 (m + 1) (nI n) (nI n) a = some a
      rw [XSh_readSizes_l2]
      exact if_pos (Int32.le_refl _), ha⟩) (fun m k a hk ha => Or.inr ⟨ax_sI (ax_sI a 60 k (nI (B (2 * k)))) 61 k (nI (B (2 * k + 1))), by
      show XSh_readSizes_l2 (m + 1) (nI n) (nI k) a = XSh_readSizes_l2 m (nI n) (nI (k + 1)) _
      have f1 : a.2.1 1 1 = nI l := by rw [ha.2 1 (by omega) (by omega)]; exact h
      have fX : ∀ k, k < l → a.2.1 2 k = nI (B k) := fun k hk => by rw [ha.2 2 (by omega) (by omega)]; exact hX k hk
      have f2 : (ax_sI a 60 k (nI (B (2 * k)))).2.1 1 1 = nI l := by rw [r_I (by omega)]; exact f1
      have fX2 : ∀ i, i < l → (ax_sI a 60 k (nI (B (2 * k)))).2.1 2 i = nI (B i) := fun i hi => by rw [r_I (by omega)]; exact fX i hi
      rw [XSh_readSizes_l2, q_2, pk_mul, z_1, XB hl f1 fX (show 2 * k < l by omega)]
      simp (disch := omega) only [q_10, z_cl, z_lt0, z_le, z_nle, z_1, if_false, or_self]
      rw [XB hl f2 fX2 (show 2 * k + 1 < l by omega)], by
      refine ⟨fun i hi => ?_, fun c h1 h2 => by rw [r_I h2, r_I h1]; exact ha.2 c h1 h2⟩
      by_cases e : i = k
      · subst e
        exact ⟨by rw [r_I (by omega), r_Ie, r_u], by rw [r_Ie, r_u]⟩
      · refine ⟨?_, ?_⟩
        · rw [r_I (by omega), r_Ie, r_un e]; exact (ha.1 i (by omega)).1
        · rw [r_Ie, r_un e, r_I (by omega)]; exact (ha.1 i (by omega)).2⟩) 70000 0 s (Nat.zero_le _) ⟨fun i hi => absurd hi (Nat.not_lt_zero _), fun _ _ _ => rfl⟩ (by omega)
  have g1 : XSh_readSizes_l2 70000 (nI n) 0 s = some b := g1
  simp only [g1]
  exact ⟨b, rfl, g2⟩
def fr_g (B : Nat → Nat) (t : Bool) (a b : Nat) : Bool := (!decide (B (2 * b) ≤ B (2 * a)) && !decide (B (2 * b + 1) ≤ B (2 * a + 1))) || (t && !decide (B (2 * b) ≤ B (2 * a + 1)) && !decide (B (2 * b + 1) ≤ B (2 * a)))
def fr_mx (a b : Int32) : Int32 := if a < b then b else a
theorem fr_mxM (a b : Int32) (s : ax_S) : M_max a b s = fr_mx a b := by
  unfold M_max fr_mx
  by_cases h : a < b
  · rw [if_pos (Int32.le_of_lt h), if_pos h]
  · rw [if_neg h]
    by_cases h2 : a ≤ b
    · rw [if_pos h2]; exact Int32.le_antisymm (Int32.not_lt.mp h) h2
    · rw [if_neg h2]
theorem fr_assoc (a b c : Int32) : fr_mx (fr_mx a b) c = fr_mx a (fr_mx b c) := by
  unfold fr_mx
  simp only [Int32.lt_iff_toInt_lt]
  by_cases h1 : a.toInt < b.toInt <;> by_cases h2 : b.toInt < c.toInt <;> by_cases h3 : a.toInt < c.toInt <;> simp [h1, h2, h3] <;> omega
theorem fr_le (a b : Int32) : a ≤ fr_mx a b := by
  unfold fr_mx
  split
  · rename_i h; exact Int32.le_of_lt h
  · exact Int32.le_refl _
theorem fr_1 {m : Int32} (h : 1 ≤ m) : fr_mx m 1 = m := if_neg (Int32.not_lt.mpr h)
def fr_in (g : Nat → Nat → Bool) (i : Nat) (n : Nat) (cs : Nat → Int32) : Nat → Int32 := z_it (fun j cs => if g j i = true then upd cs i (fr_mx (cs i) (cs j + 1)) else cs) n cs
def fr_row (g : Nat → Nat → Bool) (n k : Nat) (cs : Nat → Int32) : Nat → Int32 := z_it (fun i cs => fr_in g i n cs) k cs
def fr_rm (g : Nat → Nat → Bool) (n : Nat) (cs : Nat → Int32) : Nat → Int32 → Int32
  | 0, m => m
  | k + 1, m => fr_mx (fr_rm g n cs k m) (fr_row g n (k + 1) cs k)
theorem fr_rm1 (g : Nat → Nat → Bool) (n : Nat) (cs : Nat → Int32) {m : Int32} (h : 1 ≤ m) : ∀ k, fr_rm g n cs k m = fr_mx m (fr_rm g n cs k 1)
  | 0 => (fr_1 h).symm
  | k + 1 => by
    rw [fr_rm, fr_rm1 g n cs h k, fr_assoc]
    rfl
theorem fr_rm_le (g : Nat → Nat → Bool) (n : Nat) (cs : Nat → Int32) {m : Int32} (h : 1 ≤ m) (k : Nat) : 1 ≤ fr_rm g n cs k m := by
  rw [fr_rm1 g n cs h k]
  exact Int32.le_trans h (fr_le _ _)
def fr_all (g : Nat → Nat → Bool) (n : Nat) : Nat → (Nat → Int32) × Int32
  | 0 => (fun _ => 1, 1)
  | r + 1 => (fr_row g n n (fr_all g n r).1, fr_rm g n (fr_all g n r).1 n (fr_all g n r).2)
theorem fr_all1 (g : Nat → Nat → Bool) (n : Nat) : ∀ r, 1 ≤ (fr_all g n r).2
  | 0 => by show (1 : Int32) ≤ 1; decide
  | r + 1 => fr_rm_le g n _ (fr_all1 g n r) n
theorem X_goes {s : ax_S} {n : Nat} {B : Nat → Nat} (hBB : ∀ k, B k < 256) (hs : ∀ k, k < n → s.2.1 60 k = nI (B (2 * k)) ∧ s.2.1 61 k = nI (B (2 * k + 1))) (hn : n ≤ 10) {a b : Nat} (ha : a < n) (hb : b < n) (t : Int32) : XSh_goesInto (nI a) (nI b) t s = some (if fr_g B (decide (t ≠ 0)) a b = true then 1 else 0) := by
  unfold XSh_goesInto XSh_goesInto_j34
  have p1 := hBB (2 * a)
  have p2 := hBB (2 * a + 1)
  have p3 := hBB (2 * b)
  have p4 := hBB (2 * b + 1)
  simp (disch := omega) only [q_10, z_cl, z_lt0, z_le, z_lt, z_nle, z_ylt, if_false, if_true, or_self]
  rw [(hs a ha).1, (hs a ha).2, (hs b hb).1, (hs b hb).2]
  simp (disch := omega) only [z_le]
  unfold fr_g
  by_cases c1 : B (2 * b) ≤ B (2 * a) <;> by_cases c2 : B (2 * b + 1) ≤ B (2 * a + 1) <;> by_cases c3 : B (2 * b) ≤ B (2 * a + 1) <;> by_cases c4 : B (2 * b + 1) ≤ B (2 * a) <;> by_cases c5 : t = 0 <;> simp [c1, c2, c3, c4, c5]
theorem M_goes {s : ax_S} {B : Nat → Nat} (hBB : ∀ k, B k < 256) (hM : ∀ k, s.2.1 67 k &&& 255 = nI (B k)) {a b : Nat} (ha : a < 10) (hb : b < 10) (t : Int32) : M_goesIn (nI a) (nI b) t s = some (if fr_g B (decide (t ≠ 0)) a b = true then 1 else 0) := by
  unfold M_goesIn
  have p1 := hBB (2 * a)
  have p2 := hBB (2 * a + 1)
  have p3 := hBB (2 * b)
  have p4 := hBB (2 * b + 1)
  rw [q_2, pk_mul, pk_mul, z_1, z_1, MB hM (by omega), MB hM (by omega), MB hM (by omega), MB hM (by omega)]
  simp (disch := omega) only [z_le]
  unfold fr_g
  by_cases c1 : B (2 * b) ≤ B (2 * a) <;> by_cases c2 : B (2 * b + 1) ≤ B (2 * a + 1) <;> by_cases c3 : B (2 * b) ≤ B (2 * a + 1) <;> by_cases c4 : B (2 * b + 1) ≤ B (2 * a) <;> by_cases c5 : t = 0 <;> simp [c1, c2, c3, c4, c5]
theorem X_ln21 {s : ax_S} {n i : Nat} {B : Nat → Nat} {cs : Nat → Int32} (hBB : ∀ k, B k < 256) (hs : ∀ k, k < n → s.2.1 60 k = nI (B (2 * k)) ∧ s.2.1 61 k = nI (B (2 * k + 1))) (hn : n ≤ 10) (hi : i < n) (hc : ∀ k, k < n → s.2.1 62 k = cs k) (t x3 : Int32) : ∃ s', XSh_lengthenChains_l21 70000 (nI n) t x3 (nI i) 0 s = some s' ∧ (∀ k, k < n → s'.2.1 62 k = fr_in (fr_g B (decide (t ≠ 0))) i n cs k) ∧ (∀ c, c ≠ 62 → s'.2.1 c = s.2.1 c) := by
  obtain ⟨b, g1, g2⟩ := z_for (fun m k (a : ax_S) => XSh_lengthenChains_l21 m (nI n) t x3 (nI i) (nI k) a) n (fun j a => (∀ k, k < n → a.2.1 62 k = fr_in (fr_g B (decide (t ≠ 0))) i j cs k) ∧ (∀ c, c ≠ 62 → a.2.1 c = s.2.1 c)) (fun a => (∀ k, k < n → a.2.1 62 k = fr_in (fr_g B (decide (t ≠ 0))) i n cs k) ∧ (∀ c, c ≠ 62 → a.2.1 c = s.2.1 c)) (fun m a ha => ⟨a, by
      show XSh_lengthenChains_l21 (m + 1) (nI n) t x3 (nI i) (nI n) a = some a
      rw [XSh_lengthenChains_l21]
      exact if_pos (Int32.le_refl _), ha⟩) (fun m k a hk ha => Or.inr (by
      show ∃ a', XSh_lengthenChains_l21 (m + 1) (nI n) t x3 (nI i) (nI k) a = XSh_lengthenChains_l21 m (nI n) t x3 (nI i) (nI (k + 1)) a' ∧ _
      have hs2 : ∀ k, k < n → a.2.1 60 k = nI (B (2 * k)) ∧ a.2.1 61 k = nI (B (2 * k + 1)) := fun k hk => by rw [ha.2 60 (by omega), ha.2 61 (by omega)]; exact hs k hk
      rw [XSh_lengthenChains_l21, X_goes hBB hs2 hn hk hi]
      simp (disch := omega) only [q_10, z_cl, z_lt0, z_le, z_nle, z_1, if_false, or_self]
      by_cases c : fr_g B (decide (t ≠ 0)) k i = true
      · refine ⟨ax_sI a 62 i (fr_mx (a.2.1 62 i) (a.2.1 62 k + 1)), ?_, fun j hj => ?_, fun c hc => by rw [r_I hc]; exact ha.2 c hc⟩
        · simp only [c, if_true, z_10, if_false]
          rfl
        · rw [r_Ie]
          show upd (a.2.1 62) i _ j = (if fr_g B (decide (t ≠ 0)) k i = true then upd (fr_in (fr_g B (decide (t ≠ 0))) i k cs) i _ else _) j
          rw [if_pos c, ha.1 i hi, ha.1 k hk]
          by_cases e : j = i
          · subst e; rw [r_u, r_u]; rfl
          · rw [r_un e, r_un e]; exact ha.1 j hj
      · refine ⟨a, by simp only [c, if_false, if_true]; simp, fun j hj => ?_, ha.2⟩
        show _ = (if fr_g B (decide (t ≠ 0)) k i = true then _ else fr_in (fr_g B (decide (t ≠ 0))) i k cs) j
        rw [if_neg c]
        exact ha.1 j hj)) 70000 0 s (Nat.zero_le _) ⟨hc, fun _ _ => rfl⟩ (by omega)
  exact ⟨b, g1, g2⟩
theorem M_ln99 {s : ax_S} {n i : Nat} {B : Nat → Nat} {cs : Nat → Int32} (hBB : ∀ k, B k < 256) (hM : ∀ k, s.2.1 67 k &&& 255 = nI (B k)) (hn : n ≤ 10) (hi : i < n) (hc : ∀ k, k < n → s.2.1 82 k = cs k) (t x3 x4 : Int32) : ∃ s', M_frames_l99 70000 (nI n) t x3 x4 (nI i) 0 s = some s' ∧ (∀ k, k < n → s'.2.1 82 k = fr_in (fr_g B (decide (t ≠ 0))) i n cs k) ∧ (∀ c, c ≠ 82 → s'.2.1 c = s.2.1 c) := by
  obtain ⟨b, g1, g2⟩ := z_for (fun m k (a : ax_S) => M_frames_l99 m (nI n) t x3 x4 (nI i) (nI k) a) n (fun j a => (∀ k, k < n → a.2.1 82 k = fr_in (fr_g B (decide (t ≠ 0))) i j cs k) ∧ (∀ c, c ≠ 82 → a.2.1 c = s.2.1 c)) (fun a => (∀ k, k < n → a.2.1 82 k = fr_in (fr_g B (decide (t ≠ 0))) i n cs k) ∧ (∀ c, c ≠ 82 → a.2.1 c = s.2.1 c)) (fun m a ha => ⟨a, by
      show M_frames_l99 (m + 1) (nI n) t x3 x4 (nI i) (nI n) a = some a
      rw [M_frames_l99]
      exact if_pos (Int32.le_refl _), ha⟩) (fun m k a hk ha => Or.inr (by
      show ∃ a', M_frames_l99 (m + 1) (nI n) t x3 x4 (nI i) (nI k) a = M_frames_l99 m (nI n) t x3 x4 (nI i) (nI (k + 1)) a' ∧ _
      have hM2 : ∀ k, a.2.1 67 k &&& 255 = nI (B k) := fun k => by rw [ha.2 67 (by omega)]; exact hM k
      rw [M_frames_l99, M_goes hBB hM2 (show k < 10 by omega) (show i < 10 by omega)]
      simp (disch := omega) only [z_cl, z_lt0, z_le, z_nle, z_1, fr_mxM, if_false, or_self]
      by_cases c : fr_g B (decide (t ≠ 0)) k i = true
      · refine ⟨ax_sI a 82 i (fr_mx (a.2.1 82 i) (a.2.1 82 k + 1)), ?_, fun j hj => ?_, fun c hc => by rw [r_I hc]; exact ha.2 c hc⟩
        · simp only [c, if_true, z_10, if_false]
        · rw [r_Ie]
          show upd (a.2.1 82) i _ j = (if fr_g B (decide (t ≠ 0)) k i = true then upd (fr_in (fr_g B (decide (t ≠ 0))) i k cs) i _ else _) j
          rw [if_pos c, ha.1 i hi, ha.1 k hk]
          by_cases e : j = i
          · subst e; rw [r_u, r_u]; rfl
          · rw [r_un e, r_un e]; exact ha.1 j hj
      · refine ⟨a, by simp only [c, if_false, if_true]; simp, fun j hj => ?_, ha.2⟩
        show _ = (if fr_g B (decide (t ≠ 0)) k i = true then _ else fr_in (fr_g B (decide (t ≠ 0))) i k cs) j
        rw [if_neg c]
        exact ha.1 j hj)) 70000 0 s (Nat.zero_le _) ⟨hc, fun _ _ => rfl⟩ (by omega)
  exact ⟨b, g1, g2⟩
theorem X_ln {s : ax_S} {n : Nat} {B : Nat → Nat} {cs : Nat → Int32} (hBB : ∀ k, B k < 256) (hs : ∀ k, k < n → s.2.1 60 k = nI (B (2 * k)) ∧ s.2.1 61 k = nI (B (2 * k + 1))) (hn : n ≤ 10) (hc : ∀ k, k < n → s.2.1 62 k = cs k) (t : Int32) : ∃ s', XSh_lengthenChains (nI n) t s = some (fr_rm (fr_g B (decide (t ≠ 0))) n cs n 1, s') ∧ (∀ k, k < n → s'.2.1 62 k = fr_row (fr_g B (decide (t ≠ 0))) n n cs k) ∧ (∀ c, c ≠ 62 → s'.2.1 c = s.2.1 c) := by
  unfold XSh_lengthenChains
  obtain ⟨b, g1, g2⟩ := z_for (fun m k (a : Int32 × ax_S) => XSh_lengthenChains_l5 m (nI n) t a.1 (nI k) a.2) n (fun j a => a.1 = fr_rm (fr_g B (decide (t ≠ 0))) n cs j 1 ∧ (∀ k, k < n → a.2.2.1 62 k = fr_row (fr_g B (decide (t ≠ 0))) n j cs k) ∧ (∀ c, c ≠ 62 → a.2.2.1 c = s.2.1 c)) (fun a => a.1 = fr_rm (fr_g B (decide (t ≠ 0))) n cs n 1 ∧ (∀ k, k < n → a.2.2.1 62 k = fr_row (fr_g B (decide (t ≠ 0))) n n cs k) ∧ (∀ c, c ≠ 62 → a.2.2.1 c = s.2.1 c)) (fun m a ha => ⟨a, by
      show XSh_lengthenChains_l5 (m + 1) (nI n) t a.1 (nI n) a.2 = some a
      rw [XSh_lengthenChains_l5]
      exact if_pos (Int32.le_refl _), ha⟩) (fun m k a hk ha => Or.inr (by
      obtain ⟨v, a⟩ := a
      obtain ⟨h1, h2, h3⟩ := ha
      dsimp only at h1 h2 h3
      show ∃ a' : Int32 × ax_S, XSh_lengthenChains_l5 (m + 1) (nI n) t v (nI k) a = XSh_lengthenChains_l5 m (nI n) t a'.1 (nI (k + 1)) a'.2 ∧ _
      obtain ⟨s2, e1, e2, e3⟩ := X_ln21 (s := a) hBB (fun k hk => by rw [h3 60 (by omega), h3 61 (by omega)]; exact hs k hk) hn hk h2 t v
      refine ⟨(fr_mx v (s2.2.1 62 k), s2), ?_, ?_, e2, fun c hc => by rw [e3 c hc]; exact h3 c hc⟩
      · rw [XSh_lengthenChains_l5]
        simp (disch := omega) only [q_10, z_cl, z_lt0, z_le, z_nle, z_1, if_false, or_self]
        rw [e1]
        rfl
      · show fr_mx v (s2.2.1 62 k) = fr_mx (fr_rm (fr_g B (decide (t ≠ 0))) n cs k 1) (fr_row (fr_g B (decide (t ≠ 0))) n (k + 1) cs k)
        rw [h1, e2 k hk]
        rfl)) 70000 0 (1, s) (Nat.zero_le _) ⟨rfl, hc, fun _ _ => rfl⟩ (by omega)
  have g1 : XSh_lengthenChains_l5 70000 (nI n) t 1 0 s = some b := g1
  obtain ⟨v, s'⟩ := b
  obtain ⟨h1, h2⟩ := g2
  dsimp only at h1 h2
  rw [h1] at g1
  simp only [g1]
  exact ⟨s', rfl, h2⟩
theorem M_ln {s : ax_S} {n : Nat} {B : Nat → Nat} {cs : Nat → Int32} (hBB : ∀ k, B k < 256) (hM : ∀ k, s.2.1 67 k &&& 255 = nI (B k)) (hn : n ≤ 10) (hc : ∀ k, k < n → s.2.1 82 k = cs k) (t x3 x4 : Int32) : ∃ s', M_frames_l90 70000 (nI n) t x3 x4 0 s = some (fr_rm (fr_g B (decide (t ≠ 0))) n cs n x3, s') ∧ (∀ k, k < n → s'.2.1 82 k = fr_row (fr_g B (decide (t ≠ 0))) n n cs k) ∧ (∀ c, c ≠ 82 → s'.2.1 c = s.2.1 c) := by
  obtain ⟨b, g1, g2⟩ := z_for (fun m k (a : Int32 × ax_S) => M_frames_l90 m (nI n) t a.1 x4 (nI k) a.2) n (fun j a => a.1 = fr_rm (fr_g B (decide (t ≠ 0))) n cs j x3 ∧ (∀ k, k < n → a.2.2.1 82 k = fr_row (fr_g B (decide (t ≠ 0))) n j cs k) ∧ (∀ c, c ≠ 82 → a.2.2.1 c = s.2.1 c)) (fun a => a.1 = fr_rm (fr_g B (decide (t ≠ 0))) n cs n x3 ∧ (∀ k, k < n → a.2.2.1 82 k = fr_row (fr_g B (decide (t ≠ 0))) n n cs k) ∧ (∀ c, c ≠ 82 → a.2.2.1 c = s.2.1 c)) (fun m a ha => ⟨a, by
      show M_frames_l90 (m + 1) (nI n) t a.1 x4 (nI n) a.2 = some a
      rw [M_frames_l90]
      exact if_pos (Int32.le_refl _), ha⟩) (fun m k a hk ha => Or.inr (by
      obtain ⟨v, a⟩ := a
      obtain ⟨h1, h2, h3⟩ := ha
      dsimp only at h1 h2 h3
      show ∃ a' : Int32 × ax_S, M_frames_l90 (m + 1) (nI n) t v x4 (nI k) a = M_frames_l90 m (nI n) t a'.1 x4 (nI (k + 1)) a'.2 ∧ _
      obtain ⟨s2, e1, e2, e3⟩ := M_ln99 (s := a) hBB (fun k => by rw [h3 67 (by omega)]; exact hM k) hn hk h2 t v x4
      refine ⟨(fr_mx v (s2.2.1 82 k), s2), ?_, ?_, e2, fun c hc => by rw [e3 c hc]; exact h3 c hc⟩
      · rw [M_frames_l90]
        simp (disch := omega) only [z_cl, z_lt0, z_le, z_nle, z_1, fr_mxM, if_false, or_self]
        rw [e1]
      · show fr_mx v (s2.2.1 82 k) = fr_mx (fr_rm (fr_g B (decide (t ≠ 0))) n cs k x3) (fr_row (fr_g B (decide (t ≠ 0))) n (k + 1) cs k)
        rw [h1, e2 k hk]
        rfl)) 70000 0 (x3, s) (Nat.zero_le _) ⟨rfl, hc, fun _ _ => rfl⟩ (by omega)
  have g1 : M_frames_l90 70000 (nI n) t x3 x4 0 s = some b := g1
  obtain ⟨v, s'⟩ := b
  obtain ⟨h1, h2⟩ := g2
  dsimp only at h1 h2
  rw [h1] at g1
  exact ⟨s', g1, h2⟩
theorem X_nest59 {s : ax_S} {n : Nat} {B : Nat → Nat} (hBB : ∀ k, B k < 256) (hs : ∀ k, k < n → s.2.1 60 k = nI (B (2 * k)) ∧ s.2.1 61 k = nI (B (2 * k + 1))) (hn : n ≤ 10) (hc : ∀ k, k < n → s.2.1 62 k = 1) (t : Int32) : ∃ s', XSh_nest_l59 70000 (nI n) t 1 0 s = some ((fr_all (fr_g B (decide (t ≠ 0))) n n).2, s') ∧ (∀ c, c ≠ 62 → s'.2.1 c = s.2.1 c) := by
  obtain ⟨b, g1, g2⟩ := z_for (fun m k (a : Int32 × ax_S) => XSh_nest_l59 m (nI n) t a.1 (nI k) a.2) n (fun j a => a.1 = (fr_all (fr_g B (decide (t ≠ 0))) n j).2 ∧ (∀ k, k < n → a.2.2.1 62 k = (fr_all (fr_g B (decide (t ≠ 0))) n j).1 k) ∧ (∀ c, c ≠ 62 → a.2.2.1 c = s.2.1 c)) (fun a => a.1 = (fr_all (fr_g B (decide (t ≠ 0))) n n).2 ∧ (∀ c, c ≠ 62 → a.2.2.1 c = s.2.1 c)) (fun m a ha => ⟨a, by
      show XSh_nest_l59 (m + 1) (nI n) t a.1 (nI n) a.2 = some a
      rw [XSh_nest_l59]
      exact if_pos (Int32.le_refl _), ha.1, ha.2.2⟩) (fun m k a hk ha => Or.inr (by
      obtain ⟨v, a⟩ := a
      obtain ⟨h1, h2, h3⟩ := ha
      dsimp only at h1 h2 h3
      show ∃ a' : Int32 × ax_S, XSh_nest_l59 (m + 1) (nI n) t v (nI k) a = XSh_nest_l59 m (nI n) t a'.1 (nI (k + 1)) a'.2 ∧ _
      obtain ⟨s2, e1, e2, e3⟩ := X_ln (s := a) hBB (fun k hk => by rw [h3 60 (by omega), h3 61 (by omega)]; exact hs k hk) hn h2 t
      refine ⟨(fr_mx v (fr_rm (fr_g B (decide (t ≠ 0))) n (fr_all (fr_g B (decide (t ≠ 0))) n k).1 n 1), s2), ?_, ?_, e2, fun c hc => by rw [e3 c hc]; exact h3 c hc⟩
      · rw [XSh_nest_l59]
        simp (disch := omega) only [z_le, z_nle, z_1, if_false]
        rw [e1]
        rfl
      · rw [h1]
        exact (fr_rm1 _ n _ (fr_all1 _ n k) n).symm)) 70000 0 (1, s) (Nat.zero_le _) ⟨rfl, hc, fun _ _ => rfl⟩ (by omega)
  have g1 : XSh_nest_l59 70000 (nI n) t 1 0 s = some b := g1
  obtain ⟨v, s'⟩ := b
  obtain ⟨h1, h2⟩ := g2
  dsimp only at h1 h2
  rw [h1] at g1
  exact ⟨s', g1, h2⟩
theorem M_fr81 {s : ax_S} {n : Nat} {B : Nat → Nat} (hBB : ∀ k, B k < 256) (hM : ∀ k, s.2.1 67 k &&& 255 = nI (B k)) (hn : n ≤ 10) (hc : ∀ k, k < n → s.2.1 82 k = 1) (t : Int32) : ∃ s', M_frames_l81 70000 (nI n) t 1 0 s = some ((fr_all (fr_g B (decide (t ≠ 0))) n n).2, s') ∧ (∀ c, c ≠ 82 → s'.2.1 c = s.2.1 c) := by
  obtain ⟨b, g1, g2⟩ := z_for (fun m k (a : Int32 × ax_S) => M_frames_l81 m (nI n) t a.1 (nI k) a.2) n (fun j a => a.1 = (fr_all (fr_g B (decide (t ≠ 0))) n j).2 ∧ (∀ k, k < n → a.2.2.1 82 k = (fr_all (fr_g B (decide (t ≠ 0))) n j).1 k) ∧ (∀ c, c ≠ 82 → a.2.2.1 c = s.2.1 c)) (fun a => a.1 = (fr_all (fr_g B (decide (t ≠ 0))) n n).2 ∧ (∀ c, c ≠ 82 → a.2.2.1 c = s.2.1 c)) (fun m a ha => ⟨a, by
      show M_frames_l81 (m + 1) (nI n) t a.1 (nI n) a.2 = some a
      rw [M_frames_l81]
      exact if_pos (Int32.le_refl _), ha.1, ha.2.2⟩) (fun m k a hk ha => Or.inr (by
      obtain ⟨v, a⟩ := a
      obtain ⟨h1, h2, h3⟩ := ha
      dsimp only at h1 h2 h3
      show ∃ a' : Int32 × ax_S, M_frames_l81 (m + 1) (nI n) t v (nI k) a = M_frames_l81 m (nI n) t a'.1 (nI (k + 1)) a'.2 ∧ _
      obtain ⟨s2, e1, e2, e3⟩ := M_ln (s := a) hBB (fun k => by rw [h3 67 (by omega)]; exact hM k) hn h2 t v (nI k)
      refine ⟨(fr_rm (fr_g B (decide (t ≠ 0))) n (fr_all (fr_g B (decide (t ≠ 0))) n k).1 n v, s2), ?_, ?_, e2, fun c hc => by rw [e3 c hc]; exact h3 c hc⟩
      · rw [M_frames_l81]
        simp (disch := omega) only [z_le, z_nle, z_1, if_false]
        rw [e1]
      · rw [h1]
        rfl)) 70000 0 (1, s) (Nat.zero_le _) ⟨rfl, hc, fun _ _ => rfl⟩ (by omega)
  have g1 : M_frames_l81 70000 (nI n) t 1 0 s = some b := g1
  obtain ⟨v, s'⟩ := b
  obtain ⟨h1, h2⟩ := g2
  dsimp only at h1 h2
  rw [h1] at g1
  exact ⟨s', g1, h2⟩
theorem X_nest7 {s : ax_S} {n : Nat} {B : Nat → Nat} (hBB : ∀ k, B k < 256) (hs : ∀ k, k < n → s.2.1 60 k = nI (B (2 * k)) ∧ s.2.1 61 k = nI (B (2 * k + 1))) (hn : n ≤ 10) (t : Int32) : ∃ s', (∀ c, c ≠ 62 → s'.2.1 c = s.2.1 c) ∧ ((XSh_nest_l7 70000 (nI n) t 0 s = some (.inl s') ∧ (∀ k, k < n → s'.2.1 62 k = 1) ∧ ∀ k, k < 2 * n → ¬ B k = 0) ∨ (XSh_nest_l7 70000 (nI n) t 0 s = some (.inr (-2, s')) ∧ ∃ k, k < 2 * n ∧ B k = 0)) := by
  obtain ⟨b, g1, g2⟩ := z_for (fun m k (a : ax_S) => XSh_nest_l7 m (nI n) t (nI k) a) n (fun j a => (∀ c, c ≠ 62 → a.2.1 c = s.2.1 c) ∧ (∀ k, k < j → a.2.1 62 k = 1) ∧ ∀ k, k < 2 * j → ¬ B k = 0) (fun v => ∃ s', (∀ c, c ≠ 62 → s'.2.1 c = s.2.1 c) ∧ ((v = .inl s' ∧ (∀ k, k < n → s'.2.1 62 k = 1) ∧ ∀ k, k < 2 * n → ¬ B k = 0) ∨ (v = .inr (-2, s') ∧ ∃ k, k < 2 * n ∧ B k = 0))) (fun m a ha => ⟨.inl a, by
      show XSh_nest_l7 (m + 1) (nI n) t (nI n) a = some (.inl a)
      rw [XSh_nest_l7]
      exact if_pos (Int32.le_refl _), a, ha.1, Or.inl ⟨rfl, ha.2⟩⟩) (fun m k a hk ha => by
      show (∃ b, XSh_nest_l7 (m + 1) (nI n) t (nI k) a = some b ∧ _) ∨ ∃ a', XSh_nest_l7 (m + 1) (nI n) t (nI k) a = XSh_nest_l7 m (nI n) t (nI (k + 1)) a' ∧ _
      have p1 := hBB (2 * k)
      have p2 := hBB (2 * k + 1)
      rw [XSh_nest_l7]
      simp (disch := omega) only [q_10, z_cl, z_lt0, z_le, z_nle, z_1, if_false, or_self]
      rw [ha.1 60 (by omega), ha.1 61 (by omega), (hs k hk).1, (hs k hk).2]
      simp only [q_1, z_lt (show B (2 * k) < 2147483648 by omega) (show 1 < 2147483648 by omega), z_le (show 1 < 2147483648 by omega) (show B (2 * k + 1) < 2147483648 by omega)]
      by_cases c1 : B (2 * k) < 1
      · rw [if_pos c1]
        exact Or.inl ⟨_, rfl, a, ha.1, Or.inr ⟨rfl, 2 * k, by omega, by omega⟩⟩
      · rw [if_neg c1]
        by_cases c2 : 1 ≤ B (2 * k + 1)
        · rw [if_pos c2]
          refine Or.inr ⟨_, rfl, fun c hc => by rw [r_I hc]; exact ha.1 c hc, fun j hj => ?_, fun j hj => ?_⟩
          · rw [r_Ie]
            by_cases e : j = k
            · subst e; rw [r_u]
            · rw [r_un e]; exact ha.2.1 j (by omega)
          · by_cases e1 : j = 2 * k
            · subst e1; omega
            · by_cases e2 : j = 2 * k + 1
              · subst e2; omega
              · exact ha.2.2 j (by omega)
        · rw [if_neg c2]
          exact Or.inl ⟨_, rfl, a, ha.1, Or.inr ⟨rfl, 2 * k + 1, by omega, by omega⟩⟩) 70000 0 s (Nat.zero_le _) ⟨fun _ _ => rfl, fun k hk => absurd hk (Nat.not_lt_zero _), fun k hk => absurd hk (Nat.not_lt_zero _)⟩ (by omega)
  have g1 : XSh_nest_l7 70000 (nI n) t 0 s = some b := g1
  obtain ⟨s', h1, h2⟩ := g2
  rcases h2 with ⟨rfl, h3⟩ | ⟨rfl, h3⟩
  · exact ⟨s', h1, Or.inl ⟨g1, h3⟩⟩
  · exact ⟨s', h1, Or.inr ⟨g1, h3⟩⟩
theorem M_fr29 {s : ax_S} {n : Nat} {B : Nat → Nat} (hBB : ∀ k, B k < 256) (hM : ∀ k, s.2.1 67 k &&& 255 = nI (B k)) (hn : n ≤ 10) (t : Int32) : (M_frames_l29 70000 (nI n) t 0 s = some (.inl ()) ∧ ∀ k, k < 2 * n → ¬ B k = 0) ∨ (M_frames_l29 70000 (nI n) t 0 s = some (.inr (-2, s)) ∧ ∃ k, k < 2 * n ∧ B k = 0) := by
  obtain ⟨b, g1, g2⟩ := z_for (fun m k (_ : Unit) => M_frames_l29 m (nI n) t (nI k) s) (2 * n) (fun j _ => ∀ k, k < j → ¬ B k = 0) (fun v => (v = .inl () ∧ ∀ k, k < 2 * n → ¬ B k = 0) ∨ (v = .inr (-2, s) ∧ ∃ k, k < 2 * n ∧ B k = 0)) (fun m _ ha => ⟨.inl (), by
      show M_frames_l29 (m + 1) (nI n) t (nI (2 * n)) s = some (.inl ())
      rw [M_frames_l29, q_2, pk_mul]
      exact if_pos (Int32.le_refl _), Or.inl ⟨rfl, ha⟩⟩) (fun m k _ hk ha => by
      show (∃ b, M_frames_l29 (m + 1) (nI n) t (nI k) s = some b ∧ _) ∨ ∃ _ : Unit, M_frames_l29 (m + 1) (nI n) t (nI k) s = M_frames_l29 m (nI n) t (nI (k + 1)) s ∧ _
      have p1 := hBB k
      rw [M_frames_l29, q_2, pk_mul, if_neg (by rw [z_le (by omega) (by omega)]; omega), MB hM (by omega), z_1]
      simp only [z_eq0 (show B k < 2147483648 by omega)]
      by_cases c : B k = 0
      · rw [if_pos c]; exact Or.inl ⟨_, rfl, Or.inr ⟨rfl, k, hk, c⟩⟩
      · rw [if_neg c]
        refine Or.inr ⟨(), rfl, fun j hj => ?_⟩
        rcases Nat.lt_or_eq_of_le (Nat.lt_succ_iff.mp hj) with q | rfl
        · exact ha j q
        · exact c) 70000 0 () (Nat.zero_le _) (fun k hk => absurd hk (Nat.not_lt_zero _)) (by omega)
  have g1 : M_frames_l29 70000 (nI n) t 0 s = some b := g1
  rcases g2 with ⟨rfl, h3⟩ | ⟨rfl, h3⟩
  · exact Or.inl ⟨g1, h3⟩
  · exact Or.inr ⟨g1, h3⟩
theorem M_fr58 {s : ax_S} {n : Nat} (hn : n ≤ 10) (t x3 : Int32) : ∃ s', M_frames_l58 70000 (nI n) t x3 0 s = some s' ∧ (∀ k, k < n → s'.2.1 82 k = 1) ∧ (∀ c, c ≠ 82 → s'.2.1 c = s.2.1 c) := by
  obtain ⟨b, g1, g2⟩ := z_for (fun m k (a : ax_S) => M_frames_l58 m (nI n) t x3 (nI k) a) n (fun j a => (∀ k, k < j → a.2.1 82 k = 1) ∧ (∀ c, c ≠ 82 → a.2.1 c = s.2.1 c)) (fun a => (∀ k, k < n → a.2.1 82 k = 1) ∧ (∀ c, c ≠ 82 → a.2.1 c = s.2.1 c)) (fun m a ha => ⟨a, by
      show M_frames_l58 (m + 1) (nI n) t x3 (nI n) a = some a
      rw [M_frames_l58]
      exact if_pos (Int32.le_refl _), ha⟩) (fun m k a hk ha => Or.inr ⟨ax_sI a 82 k 1, by
      show M_frames_l58 (m + 1) (nI n) t x3 (nI k) a = M_frames_l58 m (nI n) t x3 (nI (k + 1)) _
      rw [M_frames_l58]
      simp (disch := omega) only [z_cl, z_lt0, z_le, z_nle, z_1, if_false, or_self], fun j hj => by
      rw [r_Ie]
      by_cases e : j = k
      · subst e; rw [r_u]
      · rw [r_un e]; exact ha.1 j (by omega), fun c hc => by rw [r_I hc]; exact ha.2 c hc⟩) 70000 0 s (Nat.zero_le _) ⟨fun k hk => absurd hk (Nat.not_lt_zero _), fun _ _ => rfl⟩ (by omega)
  exact ⟨b, g1, g2⟩
theorem y_frames (x t : Int32) (s : ax_S) (h : y_inv s.2.1) : y_sim (X_frames x t) (M_frames x t) s := by
  rcases z_inX (x := x) (s := s) 1 10 (by omega) (by omega) with h1 | ⟨h1, n, hn1, hn, rfl⟩
  · have h1 : M_in x 1 10 s = 0 := h1
    exact y_same h (-1) (by unfold X_frames; rw [X_within_eq, if_pos h1]) (by unfold M_frames; rw [if_pos h1])
  have a1 : ∀ t, ¬ M_in (nI n) 1 10 t = 0 := fun t => z_innX (x := 0) 1 10 (by omega) (by omega) hn1 hn
  obtain ⟨l, B, hl, e1, e2, eB, eX, eM⟩ := y_tpB h.2.2.2.1
  have e2n : (2 : Int32) * nI n = nI (2 * n) := by rw [q_2, pk_mul]
  by_cases c : l < 2 * n
  · exact y_same h (-1) (by unfold X_frames; rw [X_within_eq, if_neg (a1 s), e2n, if_pos (by rw [X_holds_n hl (by omega) e1]; exact c)]) (by unfold M_frames; rw [if_neg (a1 s), e2n, e2, if_neg (by rw [z_le (by omega) (by omega)]; omega)])
  have hmm : nI (2 * n) ≤ nI l := by rw [z_le (by omega) (by omega)]; omega
  obtain ⟨s1, u1, u2, u3⟩ := X_sizes_eq hl e1 eX (show 2 * n ≤ l by omega) hn
  obtain ⟨s2, u4, u5⟩ := X_nest7 (s := s1) eB u2 hn t
  have fr2 : ∀ c, c ≠ 60 → c ≠ 61 → c ≠ 62 → s2.2.1 c = s.2.1 c := fun c q1 q2 q3 => by rw [u4 c q3, u3 c q1 q2]
  have XE : ∀ v s3, XSh_nest (nI n) t s = some (v, s3) → X_frames (nI n) t s = some (v, XTa_clear s3) := fun v s3 hv => by
    unfold X_frames
    rw [X_within_eq, if_neg (a1 s), e2n, if_neg (by rw [X_holds_n hl (by omega) e1]; exact c), hv]
  rcases u5 with ⟨u5, u6, u7⟩ | ⟨u5, u7⟩
  · obtain ⟨s3, u8, u9⟩ := X_nest59 (s := s2) eB (fun k hk => by rw [u4 60 (by omega), u4 61 (by omega)]; exact u2 k hk) hn u6 t
    have fr3 : ∀ c, c ≠ 60 → c ≠ 61 → c ≠ 62 → s3.2.1 c = s.2.1 c := fun c q1 q2 q3 => by rw [u9 c q3, fr2 c q1 q2 q3]
    have fc : ∀ c, c ≠ 60 → c ≠ 61 → c ≠ 62 → c ≠ 1 → (XTa_clear s3).2.1 c = s.2.1 c := fun c q1 q2 q3 q4 => by unfold XTa_clear; rw [r_I q4, fr3 c q1 q2 q3]
    have mM : ∀ k, (ax_sI (XTa_clear s3) 63 5 0).2.1 67 k &&& 255 = nI (B k) := fun k => by rw [r_I (by omega), fc 67 (by omega) (by omega) (by omega) (by omega)]; exact eM k
    rcases M_fr29 eB mM hn t with ⟨w1, w2⟩ | ⟨w1, w2⟩
    · obtain ⟨s4, w3, w4, w5⟩ := M_fr58 (s := ax_sI (XTa_clear s3) 63 5 0) hn t 1
      obtain ⟨s5, w6, w7⟩ := M_fr81 (s := s4) eB (fun k => by rw [w5 67 (by omega)]; exact mM k) hn w4 t
      refine ⟨(fr_all (fr_g B (decide (t ≠ 0))) n n).2, XTa_clear s3, s5, XE _ s3 ?_, ?_, y_emp h ?_ ?_ fun c j k => ?_⟩
      · unfold XSh_nest
        simp only [u1, u5, u8]
      · unfold M_frames
        rw [if_neg (a1 _), e2n, fc 63 (by omega) (by omega) (by omega) (by omega), e2, if_pos hmm, w1]
        simp only [w3, w6]
      · rw [w7 1 (by omega), w5 1 (by omega), r_I (by omega)]
        unfold XTa_clear
        rw [r_Ie, r_u]
      · rw [w7 63 (by omega), w5 63 (by omega), r_Ie, r_u]
      · rw [w7 c (by omega), w5 c (by omega), r_one c j (by omega)]
        unfold XTa_clear
        rw [r_one c j (by omega), fr3 c (by omega) (by omega) (by omega)]
    · obtain ⟨i, i1, i2⟩ := w2
      exact absurd i2 (u7 i i1)
  · have fc : ∀ c, c ≠ 60 → c ≠ 61 → c ≠ 62 → c ≠ 1 → (XTa_clear s2).2.1 c = s.2.1 c := fun c q1 q2 q3 q4 => by unfold XTa_clear; rw [r_I q4, fr2 c q1 q2 q3]
    have mM : ∀ k, (ax_sI (XTa_clear s2) 63 5 0).2.1 67 k &&& 255 = nI (B k) := fun k => by rw [r_I (by omega), fc 67 (by omega) (by omega) (by omega) (by omega)]; exact eM k
    rcases M_fr29 eB mM hn t with ⟨w1, w2⟩ | ⟨w1, w2⟩
    · obtain ⟨i, i1, i2⟩ := u7
      exact absurd i2 (w2 i i1)
    · refine ⟨-2, XTa_clear s2, ax_sI (XTa_clear s2) 63 5 0, XE _ s2 ?_, ?_, y_emp h ?_ ?_ fun c j k => ?_⟩
      · unfold XSh_nest
        simp only [u1, u5]
      · unfold M_frames
        rw [if_neg (a1 _), e2n, fc 63 (by omega) (by omega) (by omega) (by omega), e2, if_pos hmm, w1]
      · rw [r_I (by omega)]
        unfold XTa_clear
        rw [r_Ie, r_u]
      · rw [r_Ie, r_u]
      · rw [r_one c j (by omega)]
        unfold XTa_clear
        rw [r_one c j (by omega), fr2 c (by omega) (by omega) (by omega)]
