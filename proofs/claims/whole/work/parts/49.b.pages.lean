/-! pages -/
/-- pasting -/
def pg_st (B : Nat → Nat) (z : Nat × Nat × Nat × Nat) (i : Nat) : Nat × Nat × Nat × Nat :=
  if z.1 + B (2 * i) ≤ 16 ∧ z.2.1 + B (2 * i + 1) ≤ 12 then (z.1 + B (2 * i), z.2.1, max z.2.2.1 (B (2 * i + 1)), z.2.2.2)
  else if z.2.1 + z.2.2.1 + B (2 * i + 1) ≤ 12 then (B (2 * i), z.2.1 + z.2.2.1, B (2 * i + 1), z.2.2.2)
  else (B (2 * i), 0, B (2 * i + 1), z.2.2.2 + 1)
def pg_no (B : Nat → Nat) (l : List Nat) : Nat := (l.foldl (pg_st B) (0, 0, 0, 1)).2.2.2
def pg_ok (z : Nat × Nat × Nat × Nat) (k : Nat) : Prop := z.1 ≤ 16 ∧ z.2.1 ≤ 12 ∧ z.2.2.1 ≤ 12 ∧ z.2.2.2 + k ≤ 20
def pg_v (B : Nat → Nat) (n : Nat) : Prop := ∀ i, i < n → 1 ≤ B (2 * i) ∧ B (2 * i) ≤ 16 ∧ 1 ≤ B (2 * i + 1) ∧ B (2 * i + 1) ≤ 12
theorem pg_st_ok {B : Nat → Nat} {n : Nat} (hv : pg_v B n) {z : Nat × Nat × Nat × Nat} {k i : Nat} (h : pg_ok z (k + 1)) (hi : i < n) : pg_ok (pg_st B z i) k := by
  have hb := hv i hi
  obtain ⟨h1, h2, h3, h4⟩ := h
  unfold pg_st pg_ok
  by_cases c1 : z.1 + B (2 * i) ≤ 16 ∧ z.2.1 + B (2 * i + 1) ≤ 12
  · rw [if_pos c1]; dsimp only; omega
  · rw [if_neg c1]
    by_cases c2 : z.2.1 + z.2.2.1 + B (2 * i + 1) ≤ 12
    · rw [if_pos c2]; dsimp only; omega
    · rw [if_neg c2]; dsimp only; omega
theorem pg_st_le (B : Nat → Nat) (z : Nat × Nat × Nat × Nat) (i : Nat) : (pg_st B z i).2.2.2 ≤ z.2.2.2 + 1 := by
  unfold pg_st
  split
  · dsimp only; omega
  · split <;> dsimp only <;> omega
theorem pg_fold_le (B : Nat → Nat) : ∀ (l : List Nat) (z : Nat × Nat × Nat × Nat), (l.foldl (pg_st B) z).2.2.2 ≤ z.2.2.2 + l.length
  | [], z => Nat.le_refl _
  | a :: l, z => by
    have h1 := pg_fold_le B l (pg_st B z a)
    have h2 := pg_st_le B z a
    show (l.foldl (pg_st B) (pg_st B z a)).2.2.2 ≤ _
    rw [List.length_cons]
    omega
theorem pg_no_le {B : Nat → Nat} {n : Nat} (hv : pg_v B n) {l : List Nat} (h : ∀ a, a ∈ l → a < n) (h1 : 1 ≤ l.length) : pg_no B l ≤ l.length := by
  cases l with
  | nil => simp at h1
  | cons a l =>
    have hb := hv a (h a (List.mem_cons_self ..))
    unfold pg_no
    have h2 := pg_fold_le B l (pg_st B (0, 0, 0, 1) a)
    have h3 : (pg_st B (0, 0, 0, 1) a).2.2.2 = 1 := by
      unfold pg_st
      rw [if_pos ⟨by dsimp only; omega, by dsimp only; omega⟩]
    show (l.foldl (pg_st B) (pg_st B (0, 0, 0, 1) a)).2.2.2 ≤ _
    rw [List.length_cons]
    omega
/-! the class -/
theorem pg_bo_lt {left n : Nat} (hn : 1 ≤ n) (hl : left < 2 ^ n) (below : Nat) : ∀ f p i, pg_bo left below f p i < n
  | 0, _, _ => hn
  | f + 1, p, i => by
    rw [pg_bo]
    by_cases c : left.testBit i = true
    · rw [if_pos c]
      by_cases d : p = below
      · rw [if_pos d]
        rcases Nat.lt_or_ge i n with q | q
        · exact q
        · rw [x_lt hl q] at c; cases c
      · rw [if_neg d]; exact pg_bo_lt hn hl below f _ _
    · rw [if_neg c]; exact pg_bo_lt hn hl below f _ _
theorem X_bitOf_eq {left below : Nat} (hl : left < 65536) (hb : below < 1000) (s : ax_S) : XSh_bitOf (nI left) (nI below) s = some (nI (pg_bo left below 6 0 0)) := by
  unfold XSh_bitOf
  obtain ⟨b, g1, g2⟩ := z_for (fun m k (p : Nat) => XSh_bitOf_l4 m (nI left) (nI below) (nI p) (nI k) s) 6 (fun k p => p ≤ k ∧ pg_bo left below (6 - k) p k = pg_bo left below 6 0 0) (fun v => v = nI (pg_bo left below 6 0 0)) (fun m p hp => ⟨0, by
      show XSh_bitOf_l4 (m + 1) (nI left) (nI below) (nI p) (nI 6) s = some 0
      rw [XSh_bitOf_l4]
      exact if_pos (by decide), by rw [← hp.2]; rfl⟩) (fun m k p hk hp => by
      show (∃ b, XSh_bitOf_l4 (m + 1) (nI left) (nI below) (nI p) (nI k) s = some b ∧ _) ∨ ∃ p', XSh_bitOf_l4 (m + 1) (nI left) (nI below) (nI p) (nI k) s = XSh_bitOf_l4 m (nI left) (nI below) (nI p') (nI (k + 1)) s ∧ _
      have hpb := hp.1
      have hq := hp.2
      rw [show 6 - k = 6 - (k + 1) + 1 by omega, pg_bo] at hq
      rw [XSh_bitOf_l4]
      simp (disch := omega) only [q_6, z_le, z_nle, z_1, if_false]
      simp only [x_has (show left < 2147483648 by omega) (show k < 32 by omega), z_eq (show p < 2147483648 by omega) (show below < 2147483648 by omega)]
      by_cases c : left.testBit k = true
      · rw [if_pos c] at hq ⊢
        by_cases d : p = below
        · rw [if_pos d] at hq ⊢
          exact Or.inl ⟨_, rfl, by rw [hq]⟩
        · rw [if_neg d] at hq ⊢
          exact Or.inr ⟨p + 1, rfl, by omega, hq⟩
      · rw [if_neg c] at hq ⊢
        exact Or.inr ⟨p, rfl, by omega, hq⟩) 70000 0 0 (Nat.zero_le _) ⟨Nat.le_refl _, rfl⟩ (by omega)
  have g1 : XSh_bitOf_l4 70000 (nI left) (nI below) 0 0 s = some b := g1
  rw [g1, g2]
def pg_X (s : ax_S) (z : Nat × Nat × Nat × Nat) : Prop := s.2.1 59 4 = nI z.1 ∧ s.2.1 59 5 = nI z.2.1 ∧ s.2.1 59 6 = nI z.2.2.1 ∧ s.2.1 59 7 = nI z.2.2.2
theorem X_pasteN {s : ax_S} {n i : Nat} {B : Nat → Nat} {z : Nat × Nat × Nat × Nat} (hs : ∀ k, k < n → s.2.1 60 k = nI (B (2 * k)) ∧ s.2.1 61 k = nI (B (2 * k + 1))) (hi : i < n) (z4 : s.2.1 59 7 = nI z.2.2.2) (hc : ¬ (z.1 + B (2 * i) ≤ 16 ∧ z.2.1 + B (2 * i + 1) ≤ 12)) : ∃ s', some (ax_sI (ax_sI (if 12 < z.2.1 + z.2.2.1 + B (2 * i + 1) then ax_sI (ax_sI s 59 7 (nI (z.2.2.2 + 1))) 59 5 0 else ax_sI s 59 5 (nI (z.2.1 + z.2.2.1))) 59 4 ((if 12 < z.2.1 + z.2.2.1 + B (2 * i + 1) then ax_sI (ax_sI s 59 7 (nI (z.2.2.2 + 1))) 59 5 0 else ax_sI s 59 5 (nI (z.2.1 + z.2.2.1))).2.1 60 i)) 59 6 ((if 12 < z.2.1 + z.2.2.1 + B (2 * i + 1) then ax_sI (ax_sI s 59 7 (nI (z.2.2.2 + 1))) 59 5 0 else ax_sI s 59 5 (nI (z.2.1 + z.2.2.1))).2.1 61 i)) = some s' ∧ pg_X s' (pg_st B z i) ∧ (∀ c, c ≠ 59 → s'.2.1 c = s.2.1 c) := by
  by_cases c3 : z.2.1 + z.2.2.1 + B (2 * i + 1) ≤ 12
  · have e : pg_st B z i = (B (2 * i), z.2.1 + z.2.2.1, B (2 * i + 1), z.2.2.2) := by unfold pg_st; rw [if_neg hc, if_pos c3]
    simp only [if_neg (show ¬ 12 < z.2.1 + z.2.2.1 + B (2 * i + 1) by omega)]
    rw [e]
    refine ⟨_, rfl, ⟨?_, ?_, ?_, ?_⟩, fun c hc => by rw [r_I hc, r_I hc, r_I hc]⟩
    · simp (disch := omega) only [r_I, r_Ie, r_u, r_un, (hs i hi).1, (hs i hi).2]
    · simp (disch := omega) only [r_I, r_Ie, r_u, r_un]
    · simp (disch := omega) only [r_I, r_Ie, r_u, r_un, (hs i hi).1, (hs i hi).2]
    · simp (disch := omega) only [r_I, r_Ie, r_u, r_un, z4]
  · have e : pg_st B z i = (B (2 * i), 0, B (2 * i + 1), z.2.2.2 + 1) := by unfold pg_st; rw [if_neg hc, if_neg c3]
    simp only [if_pos (show 12 < z.2.1 + z.2.2.1 + B (2 * i + 1) by omega)]
    rw [e]
    refine ⟨_, rfl, ⟨?_, ?_, ?_, ?_⟩, fun c hc => by rw [r_I hc, r_I hc, r_I hc, r_I hc]⟩
    · simp (disch := omega) only [r_I, r_Ie, r_u, r_un, (hs i hi).1, (hs i hi).2]
    · simp (disch := omega) only [r_I, r_Ie, r_u, r_un]; rfl
    · simp (disch := omega) only [r_I, r_Ie, r_u, r_un, (hs i hi).1, (hs i hi).2]
    · simp (disch := omega) only [r_I, r_Ie, r_u, r_un]
theorem X_paste1 {s : ax_S} {n i k : Nat} {B : Nat → Nat} {z : Nat × Nat × Nat × Nat} (hv : pg_v B n) (hn : n ≤ 6) (hs : ∀ k, k < n → s.2.1 60 k = nI (B (2 * k)) ∧ s.2.1 61 k = nI (B (2 * k + 1))) (hi : i < n) (hz : pg_X s z) (ho : pg_ok z k) : ∃ s', XSh_pasteNext (nI i) s = some s' ∧ pg_X s' (pg_st B z i) ∧ (∀ c, c ≠ 59 → s'.2.1 c = s.2.1 c) := by
  have hb := hv i hi
  obtain ⟨z1, z2, z3, z4⟩ := hz
  obtain ⟨o1, o2, o3, o4⟩ := ho
  unfold XSh_pasteNext XSh_pasteNext_j94 XSh_pasteNext_j94_1
  simp (disch := omega) only [q_10, z_cl, z_lt0, z_lt, z_ylt, z_nle, if_false, if_true, or_self]
  rw [z1, z2, z3, z4, (hs i hi).1, (hs i hi).2]
  simp (disch := omega) only [q_16, q_12, nI_add, z_lt, z_1]
  by_cases c1 : z.1 + B (2 * i) ≤ 16
  · by_cases c2 : z.2.1 + B (2 * i + 1) ≤ 12
    · have e : pg_st B z i = (z.1 + B (2 * i), z.2.1, max z.2.2.1 (B (2 * i + 1)), z.2.2.2) := if_pos ⟨c1, c2⟩
      rw [if_neg (by omega), if_neg (by omega), e]
      refine ⟨_, rfl, ⟨?_, ?_, ?_, ?_⟩, fun c hc => by rw [r_I hc, r_I hc]⟩
      · rw [r_Ie, r_un (by omega), r_Ie, r_u]
      · rw [r_Ie, r_un (by omega), r_Ie, r_un (by omega)]; exact z2
      · rw [r_Ie, r_u]
        by_cases c3 : z.2.2.1 < B (2 * i + 1)
        · rw [if_pos c3]; show _ = nI (max z.2.2.1 (B (2 * i + 1))); rw [show max z.2.2.1 (B (2 * i + 1)) = B (2 * i + 1) by omega]
        · rw [if_neg c3]; show _ = nI (max z.2.2.1 (B (2 * i + 1))); rw [show max z.2.2.1 (B (2 * i + 1)) = z.2.2.1 by omega]
      · rw [r_Ie, r_un (by omega), r_Ie, r_un (by omega)]; exact z4
    · rw [if_neg (by omega), if_pos (by omega)]
      exact X_pasteN hs hi z4 (fun q => c2 q.2)
  · rw [if_pos (by omega)]
    exact X_pasteN hs hi z4 (fun q => c1 q.1)
theorem X_order_eq {s : ax_S} {n o : Nat} {B : Nat → Nat} (hv : pg_v B n) (hn1 : 1 ≤ n) (hn : n ≤ 6) (hs : ∀ k, k < n → s.2.1 60 k = nI (B (2 * k)) ∧ s.2.1 61 k = nI (B (2 * k + 1))) (ho : o < 1000) : ∃ s', XSh_pagesInOrder (nI n) (nI o) s = some (nI (pg_no B (pg_px n (2 ^ n - 1) o)), s') ∧ (∀ c, c ≠ 59 → s'.2.1 c = s.2.1 c) := by
  have hp : 2 ^ n ≤ 64 := Nat.pow_le_pow_right (by omega) (show n ≤ 6 from hn)
  have hp1 : 1 ≤ 2 ^ n := Nat.one_le_two_pow
  unfold XSh_pagesInOrder
  rw [x_shl n (by omega), show nI (2 ^ n) - (1 : Int32) = nI (2 ^ n - 1) by rw [q_1, z_sub hp1]]
  obtain ⟨b, g1, g2⟩ := z_while (fun m (a : Nat × Nat × Nat × ax_S) => XSh_pagesInOrder_l32 m (nI a.2.1) (nI a.2.2.1) (nI a.1) a.2.2.2)
    (fun a => a.1 ≤ n ∧ a.2.1 < 2 ^ n ∧ a.2.2.1 < 1000 ∧ ∃ z, pg_X a.2.2.2 z ∧ pg_ok z a.1 ∧ (pg_px a.1 a.2.1 a.2.2.1).foldl (pg_st B) z = (pg_px n (2 ^ n - 1) o).foldl (pg_st B) (0, 0, 0, 1) ∧ (∀ c, c ≠ 59 → a.2.2.2.2.1 c = s.2.1 c)) (fun a => a.1)
    (fun b => b.2.1 59 7 = nI (pg_no B (pg_px n (2 ^ n - 1) o)) ∧ (∀ c, c ≠ 59 → b.2.1 c = s.2.1 c)) (fun m a ha => by
      obtain ⟨k, left, rest, t⟩ := a
      obtain ⟨i1, i2, i3, z, i4, i5, i6, i7⟩ := ha
      dsimp only at i1 i2 i3 i4 i5 i6 i7
      show (∃ b, XSh_pagesInOrder_l32 (m + 1) (nI left) (nI rest) (nI k) t = some b ∧ _) ∨ ∃ a' : Nat × Nat × Nat × ax_S, XSh_pagesInOrder_l32 (m + 1) (nI left) (nI rest) (nI k) t = XSh_pagesInOrder_l32 m (nI a'.2.1) (nI a'.2.2.1) (nI a'.1) a'.2.2.2 ∧ _
      rw [XSh_pagesInOrder_l32]
      by_cases c : k = 0
      · subst c
        refine Or.inl ⟨t, by rw [if_pos (by decide)], ?_, i7⟩
        rw [i4.2.2.2]
        unfold pg_no
        rw [← i6]
        rfl
      · obtain ⟨k, rfl⟩ : ∃ j, k = j + 1 := ⟨k - 1, by omega⟩
        have hbl := pg_bo_lt hn1 i2 (rest % (k + 1)) 6 0 0
        have hmod : rest % (k + 1) < k + 1 := Nat.mod_lt _ (by omega)
        obtain ⟨t', e1, e2, e3⟩ := X_paste1 (s := t) hv hn (fun j hj => by rw [i7 60 (by omega), i7 61 (by omega)]; exact hs j hj) hbl i4 i5
        have hk0 : ¬ nI (k + 1) = 0 := by rw [z_eq0 (by omega)]; omega
        rw [if_neg (show ¬ nI (k + 1) < 1 by rw [q_1, z_lt (by omega) (by omega)]; omega), if_neg hk0, z_rem (by omega) (by omega) (by omega), X_bitOf_eq (by omega) (by omega), z_div (by omega) (by omega) (by omega), show nI (k + 1) + Int32.ofInt (-1) = nI k from z_m1 (k := k + 1) (by omega)]
        simp only [hk0, if_false, e1]
        rw [x_shl _ (by omega), x_not (show left < 65536 by omega)]
        have hdiv : rest / (k + 1) ≤ rest := Nat.div_le_self _ _
        refine Or.inr ⟨(k, x_sub left (2 ^ pg_bo left (rest % (k + 1)) 6 0 0), rest / (k + 1), t'), rfl, ⟨by show k ≤ n; omega, Nat.lt_of_le_of_lt Nat.and_le_left i2, by show rest / (k + 1) < 1000; omega, pg_st B z (pg_bo left (rest % (k + 1)) 6 0 0), e2, pg_st_ok hv i5 hbl, i6, fun c hc => by show t'.2.1 c = _; rw [e3 c hc]; exact i7 c hc⟩, Nat.lt_succ_self k⟩)
    70000 (n, 2 ^ n - 1, o, ax_sI (ax_sI (ax_sI (ax_sI s 59 4 0) 59 5 0) 59 6 0) 59 7 1) ⟨Nat.le_refl _, by show 2 ^ n - 1 < 2 ^ n; omega, ho, (0, 0, 0, 1), ⟨by simp (disch := omega) only [r_I, r_Ie, r_u, r_un]; rfl, by simp (disch := omega) only [r_I, r_Ie, r_u, r_un]; rfl, by simp (disch := omega) only [r_I, r_Ie, r_u, r_un]; rfl, by simp (disch := omega) only [r_I, r_Ie, r_u, r_un]; rfl⟩, by unfold pg_ok; dsimp only; omega, rfl, fun c hc => by show (ax_sI (ax_sI (ax_sI (ax_sI s 59 4 0) 59 5 0) 59 6 0) 59 7 1).2.1 c = _; rw [r_I hc, r_I hc, r_I hc, r_I hc]⟩ (by show n < 70000; omega)
  have g1 : XSh_pagesInOrder_l32 70000 (nI (2 ^ n - 1)) (nI o) (nI n) (ax_sI (ax_sI (ax_sI (ax_sI s 59 4 0) 59 5 0) 59 6 0) 59 7 1) = some b := g1
  simp only [g1]
  exact ⟨b, by rw [g2.1], g2.2⟩
def pg_min (B : Nat → Nat) (n : Nat) (L : Nat → List Nat) : Nat → Nat → Nat
  | 0, m => m
  | k + 1, m => min (pg_min B n L k m) (pg_no B (L k))
theorem X_orders_eq {s : ax_S} {n N : Nat} {B : Nat → Nat} (hv : pg_v B n) (hn1 : 1 ≤ n) (hn : n ≤ 6) (hs : ∀ k, k < n → s.2.1 60 k = nI (B (2 * k)) ∧ s.2.1 61 k = nI (B (2 * k + 1))) (hN : N ≤ 720) : ∃ s', XSh_paste_l79 70000 (nI n) (nI N) (nI n) 0 s = some (nI (pg_min B n (fun o => pg_px n (2 ^ n - 1) o) N n), s') ∧ (∀ c, c ≠ 59 → s'.2.1 c = s.2.1 c) := by
  obtain ⟨b, g1, g2⟩ := z_for (fun m k (a : Nat × ax_S) => XSh_paste_l79 m (nI n) (nI N) (nI a.1) (nI k) a.2) N (fun k a => a.1 = pg_min B n (fun o => pg_px n (2 ^ n - 1) o) k n ∧ a.1 ≤ 6 ∧ (∀ c, c ≠ 59 → a.2.2.1 c = s.2.1 c)) (fun v => ∃ s', v = (nI (pg_min B n (fun o => pg_px n (2 ^ n - 1) o) N n), s') ∧ (∀ c, c ≠ 59 → s'.2.1 c = s.2.1 c)) (fun m a ha => ⟨(nI a.1, a.2), by
      show XSh_paste_l79 (m + 1) (nI n) (nI N) (nI a.1) (nI N) a.2 = some (nI a.1, a.2)
      rw [XSh_paste_l79]
      exact if_pos (Int32.le_refl _), a.2, by rw [ha.1], ha.2.2⟩) (fun m k a hk ha => Or.inr (by
      obtain ⟨v, t⟩ := a
      obtain ⟨h1, h2, h3⟩ := ha
      dsimp only at h1 h2 h3
      show ∃ a' : Nat × ax_S, XSh_paste_l79 (m + 1) (nI n) (nI N) (nI v) (nI k) t = XSh_paste_l79 m (nI n) (nI N) (nI a'.1) (nI (k + 1)) a'.2 ∧ _
      obtain ⟨t', e1, e2⟩ := X_order_eq (s := t) (o := k) hv hn1 hn (fun j hj => by rw [h3 60 (by omega), h3 61 (by omega)]; exact hs j hj) (by omega)
      have hle : pg_no B (pg_px n (2 ^ n - 1) k) < 1000 := by
        have q := pg_fold_le B (pg_px n (2 ^ n - 1) k) (0, 0, 0, 1)
        have hlen : ∀ k left rest, (pg_px k left rest).length = k := by
          intro k
          induction k with
          | zero => intros; rfl
          | succ k ih => intro left rest; rw [pg_px, List.length_cons, ih]
        rw [hlen] at q
        unfold pg_no
        dsimp only at q
        omega
      refine ⟨(min v (pg_no B (pg_px n (2 ^ n - 1) k)), t'), ?_, by rw [h1]; rfl, by dsimp only; omega, fun c hc => by rw [e2 c hc]; exact h3 c hc⟩
      rw [XSh_paste_l79, if_neg (by rw [z_le (by omega) (by omega)]; omega), z_1]
      simp only [e1, z_lt (show pg_no B (pg_px n (2 ^ n - 1) k) < 2147483648 by omega) (show v < 2147483648 by omega)]
      by_cases c : pg_no B (pg_px n (2 ^ n - 1) k) < v
      · rw [if_pos c, show min v (pg_no B (pg_px n (2 ^ n - 1) k)) = pg_no B (pg_px n (2 ^ n - 1) k) by omega]
      · rw [if_neg c, show min v (pg_no B (pg_px n (2 ^ n - 1) k)) = v by omega])) 70000 0 (n, s) (Nat.zero_le _) ⟨rfl, hn, fun _ _ => rfl⟩ (by omega)
  have g1 : XSh_paste_l79 70000 (nI n) (nI N) (nI n) 0 s = some b := g1
  obtain ⟨s', rfl, e⟩ := g2
  exact ⟨s', g1, e⟩
theorem pg_ind (s : ax_S) : ∀ m a b c d, XSh_paste_l52 m a b c d s = XSh_paste_l52 m a b c d z_c0 := by
  intro m
  induction m with
  | zero => intros; rfl
  | succ m ih => intros; simp only [XSh_paste_l52, ih]
theorem pg_52 : ∀ n, n < 7 → 1 ≤ n → XSh_paste_l52 70000 (nI n) 1 1 2 z_c0 = some (nI (pg_f n)) ∧ XSh_paste_l52 70000 (nI n) 0 1 2 z_c0 = some (nI 1) ∧ pg_f n ≤ 720 := by decide +kernel
