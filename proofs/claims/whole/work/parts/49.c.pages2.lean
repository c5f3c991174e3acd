/-! pages: the reference, the call -/
def pg_R (n : Nat) (s : ax_S) (q : Nat → Nat) : Prop := ∀ k, k < n → s.2.1 81 k = nI (q k)
theorem M_now13 {s : ax_S} {n : Nat} {B : Nat → Nat} {l : List Nat} (hv : pg_v B n) (hn : n ≤ 6) (hM : ∀ k, s.2.1 67 k &&& 255 = nI (B k)) (hq : pg_R n s (pg_q l)) (hl : l.length = n) (hp : ∀ a, a ∈ l → a < n) : M_pagesNow (nI n) s = some (nI (pg_no B l)) := by
  unfold M_pagesNow
  have hget : ∀ k, k < n → pg_q l k < n := fun k hk => by
    unfold pg_q
    rw [List.getD_eq_getElem?_getD, List.getElem?_eq_getElem (by omega)]
    exact hp _ (List.getElem_mem _)
  obtain ⟨b, g1, g2⟩ := z_for (fun m k (z : Nat × Nat × Nat × Nat) => M_pagesNow_l13 m (nI n) (nI z.2.2.2) (nI z.1) (nI z.2.1) (nI z.2.2.1) (nI k) s) n (fun k z => pg_ok z (12 - k) ∧ (l.drop k).foldl (pg_st B) z = l.foldl (pg_st B) (0, 0, 0, 1)) (fun v => v = nI (pg_no B l)) (fun m z hz => ⟨nI z.2.2.2, by
      show M_pagesNow_l13 (m + 1) (nI n) (nI z.2.2.2) (nI z.1) (nI z.2.1) (nI z.2.2.1) (nI n) s = some (nI z.2.2.2)
      rw [M_pagesNow_l13]
      exact if_pos (Int32.le_refl _), by
      unfold pg_no
      rw [← hz.2, List.drop_of_length_le (by omega)]
      rfl⟩) (fun m k z hk hz => Or.inr (by
      obtain ⟨ho, hf⟩ := hz
      show ∃ z' : Nat × Nat × Nat × Nat, M_pagesNow_l13 (m + 1) (nI n) (nI z.2.2.2) (nI z.1) (nI z.2.1) (nI z.2.2.1) (nI k) s = M_pagesNow_l13 m (nI n) (nI z'.2.2.2) (nI z'.1) (nI z'.2.1) (nI z'.2.2.1) (nI (k + 1)) s ∧ _
      have hi := hget k hk
      have hb := hv (pg_q l k) hi
      refine ⟨pg_st B z (pg_q l k), ?_, pg_st_ok hv (by rw [show 12 - (k + 1) + 1 = 12 - k by omega]; exact ho) hi, ?_⟩
      · obtain ⟨o1, o2, o3, o4⟩ := ho
        rw [M_pagesNow_l13]
        simp (disch := omega) only [z_cl, z_lt0, z_le, z_nle, z_1, if_false, or_self]
        rw [hq k hk, q_2, pk_mul, z_1, MB hM (by omega), MB hM (by omega)]
        simp only []
        unfold M_pagesNow_j57
        simp (disch := omega) only [q_16, q_12, nI_add, z_lt, z_le, z_1]
        by_cases c1 : z.1 + B (2 * pg_q l k) ≤ 16
        · rw [if_neg (show ¬ 16 < z.1 + B (2 * pg_q l k) by omega)]
          by_cases c2 : z.2.1 + B (2 * pg_q l k + 1) ≤ 12
          · have e : pg_st B z (pg_q l k) = (z.1 + B (2 * pg_q l k), z.2.1, max z.2.2.1 (B (2 * pg_q l k + 1)), z.2.2.2) := if_pos ⟨c1, c2⟩
            rw [if_pos c2, e]
            dsimp only
            rw [nI_add]
            have em : M_max (nI z.2.2.1) (nI (B (2 * pg_q l k + 1))) s = nI (max z.2.2.1 (B (2 * pg_q l k + 1))) := by
              unfold M_max
              simp (disch := omega) only [z_le]
              by_cases c3 : z.2.2.1 ≤ B (2 * pg_q l k + 1)
              · rw [if_pos c3, show max z.2.2.1 (B (2 * pg_q l k + 1)) = B (2 * pg_q l k + 1) by omega]
              · rw [if_neg c3, show max z.2.2.1 (B (2 * pg_q l k + 1)) = z.2.2.1 by omega]
            rw [em]
          · rw [if_neg c2]
            have em : M_max 0 (nI (B (2 * pg_q l k + 1))) s = nI (B (2 * pg_q l k + 1)) := by
              unfold M_max
              rw [if_pos (nI_pos' (by omega))]
            by_cases c3 : z.2.1 + z.2.2.1 + B (2 * pg_q l k + 1) ≤ 12
            · have e : pg_st B z (pg_q l k) = (B (2 * pg_q l k), z.2.1 + z.2.2.1, B (2 * pg_q l k + 1), z.2.2.2) := by unfold pg_st; rw [if_neg (fun q => c2 q.2), if_pos c3]
              rw [if_pos c3, e]
              dsimp only
              rw [em, Int32.zero_add]
            · have e : pg_st B z (pg_q l k) = (B (2 * pg_q l k), 0, B (2 * pg_q l k + 1), z.2.2.2 + 1) := by unfold pg_st; rw [if_neg (fun q => c2 q.2), if_neg c3]
              rw [if_neg c3, e]
              dsimp only
              rw [em, Int32.zero_add]
              rfl
        · rw [if_pos (show 16 < z.1 + B (2 * pg_q l k) by omega)]
          have em : M_max 0 (nI (B (2 * pg_q l k + 1))) s = nI (B (2 * pg_q l k + 1)) := by
            unfold M_max
            rw [if_pos (nI_pos' (by omega))]
          by_cases c3 : z.2.1 + z.2.2.1 + B (2 * pg_q l k + 1) ≤ 12
          · have e : pg_st B z (pg_q l k) = (B (2 * pg_q l k), z.2.1 + z.2.2.1, B (2 * pg_q l k + 1), z.2.2.2) := by unfold pg_st; rw [if_neg (fun q => c1 q.1), if_pos c3]
            rw [if_pos c3, e]
            dsimp only
            rw [em, Int32.zero_add]
          · have e : pg_st B z (pg_q l k) = (B (2 * pg_q l k), 0, B (2 * pg_q l k + 1), z.2.2.2 + 1) := by unfold pg_st; rw [if_neg (fun q => c1 q.1), if_neg c3]
            rw [if_neg c3, e]
            dsimp only
            rw [em, Int32.zero_add]
            rfl
      · rw [← hf]
        have hd : l.drop k = pg_q l k :: l.drop (k + 1) := by
          rw [List.drop_eq_getElem_cons (show k < l.length by omega)]
          unfold pg_q
          rw [List.getD_eq_getElem?_getD, List.getElem?_eq_getElem (by omega)]
          rfl
        rw [hd]
        rfl)) 70000 0 (0, 0, 0, 1) (Nat.zero_le _) ⟨by unfold pg_ok; dsimp only; omega, rfl⟩ (by omega)
  have g1 : M_pagesNow_l13 70000 (nI n) 1 0 0 0 0 s = some b := g1
  rw [g1, g2]
theorem M_chg {s : ax_S} {n a b : Nat} {q : Nat → Nat} (hn : n ≤ 6) (ha : a < n) (hb : b < n) (hq : pg_R n s q) : ∃ s', M_changesOrder (nI a) (nI b) s = some s' ∧ pg_R n s' (pg_sw q a b) ∧ (∀ c, c ≠ 81 → s'.2.1 c = s.2.1 c) := by
  unfold M_changesOrder
  simp (disch := omega) only [z_cl, z_lt0, z_nle, if_false, or_self]
  refine ⟨_, rfl, fun k hk => ?_, fun c hc => by rw [r_I hc, r_I hc]⟩
  unfold pg_sw
  rw [r_Ie]
  by_cases e1 : k = b
  · subst e1
    rw [r_u, if_pos rfl]
    exact hq a ha
  · rw [r_un e1, if_neg e1, r_Ie]
    by_cases e2 : k = a
    · subst e2
      rw [r_u, if_pos rfl]
      exact hq b hb
    · rw [r_un e2, if_neg e2]
      exact hq k hk
theorem M_fi {s : ax_S} {n : Nat} {q : Nat → Nat} (hn : n ≤ 6) (hq : pg_R n s q) (hb : ∀ k, k < n → q k < 1000) (hn1 : 1 ≤ n) (x1 : Int32) : (∃ i, pg_fi q (n - 1) = some i ∧ i + 1 < n ∧ q i ≤ q (i + 1) ∧ M_nextOrder_l4 70000 x1 (nI n - 2) s = some (nI i)) ∨ (pg_fi q (n - 1) = none ∧ ∃ v : Int32, v < 0 ∧ M_nextOrder_l4 70000 x1 (nI n - 2) s = some v) := by
  obtain ⟨b, g1, g2⟩ := z_while (fun m (j : Nat) => M_nextOrder_l4 m x1 (nI j - 1) s) (fun j => j < n ∧ pg_fi q j = pg_fi q (n - 1)) (fun j => j) (fun v => (∃ i, pg_fi q (n - 1) = some i ∧ i + 1 < n ∧ q i ≤ q (i + 1) ∧ v = nI i) ∨ (pg_fi q (n - 1) = none ∧ v < 0)) (fun m j hj => by
      show (∃ b, M_nextOrder_l4 (m + 1) x1 (nI j - 1) s = some b ∧ _) ∨ ∃ j', M_nextOrder_l4 (m + 1) x1 (nI j - 1) s = M_nextOrder_l4 m x1 (nI j' - 1) s ∧ _
      rw [M_nextOrder_l4]
      cases j with
      | zero => exact Or.inl ⟨_, by rw [if_pos (by decide)], Or.inr ⟨by rw [← hj.2]; rfl, by decide⟩⟩
      | succ j =>
        have e : nI (j + 1) - 1 = nI j := by rw [q_1, z_sub (by omega)]; rfl
        have hlt := hj.1
        have h1 := hb j (by omega)
        have h2 := hb (j + 1) (by omega)
        rw [e, z_1]
        simp (disch := omega) only [z_cl, z_lt0, z_nle, if_false, or_self]
        rw [hq j (by omega), hq (j + 1) (by omega)]
        simp only [z_le (show q j < 2147483648 by omega) (show q (j + 1) < 2147483648 by omega)]
        have hf := hj.2
        rw [pg_fi] at hf
        by_cases c : q j ≤ q (j + 1)
        · rw [if_pos c] at hf ⊢
          exact Or.inl ⟨_, rfl, Or.inl ⟨j, hf.symm, by omega, c, rfl⟩⟩
        · rw [if_neg c] at hf ⊢
          exact Or.inr ⟨j, rfl, ⟨by omega, hf⟩, Nat.lt_succ_self j⟩) 70000 (n - 1) ⟨by omega, rfl⟩ (by omega)
  have e : nI (n - 1) - 1 = nI n - 2 := by
    have h1 : nI n = nI (n - 1) + 1 := by rw [z_1, Nat.sub_add_cancel hn1]
    rw [h1]
    apply Int32.toInt_inj.mp
    have : n = 1 ∨ n = 2 ∨ n = 3 ∨ n = 4 ∨ n = 5 ∨ n = 6 := by omega
    rcases this with rfl | rfl | rfl | rfl | rfl | rfl <;> decide
  have g1 : M_nextOrder_l4 70000 x1 (nI n - 2) s = some b := by rw [← e]; exact g1
  rcases g2 with ⟨i, h1, h2, h3, rfl⟩ | ⟨h1, h2⟩
  · exact Or.inl ⟨i, h1, h2, h3, g1⟩
  · exact Or.inr ⟨h1, b, h2, g1⟩
theorem M_fj {s : ax_S} {n i : Nat} {q : Nat → Nat} (hn : n ≤ 6) (hq : pg_R n s q) (hb : ∀ k, k < n → q k < 1000) (hi : i + 1 < n) (hs : q i ≤ q (i + 1)) (x1 : Int32) : pg_fj q (q i) n < n ∧ M_nextOrder_l42 70000 x1 (nI i) (nI (n - 1)) s = some (nI (pg_fj q (q i) n)) := by
  obtain ⟨b, g1, g2⟩ := z_while (fun m (j : Nat) => M_nextOrder_l42 m x1 (nI i) (nI (j - 1)) s) (fun j => 1 ≤ j ∧ i + 1 < j ∧ j ≤ n ∧ pg_fj q (q i) j = pg_fj q (q i) n) (fun j => j) (fun v => pg_fj q (q i) n < n ∧ v = nI (pg_fj q (q i) n)) (fun m j hj => by
      obtain ⟨h1, h2, h3, h4⟩ := hj
      obtain ⟨j, rfl⟩ : ∃ k, j = k + 1 := ⟨j - 1, by omega⟩
      show (∃ b, M_nextOrder_l42 (m + 1) x1 (nI i) (nI j) s = some b ∧ _) ∨ ∃ j', M_nextOrder_l42 (m + 1) x1 (nI i) (nI j) s = M_nextOrder_l42 m x1 (nI i) (nI (j' - 1)) s ∧ _
      have b1 := hb i (by omega)
      have b2 := hb j (by omega)
      rw [M_nextOrder_l42]
      simp (disch := omega) only [z_cl, z_lt0, z_nle, if_false, or_self]
      rw [hq i (by omega), hq j (by omega)]
      simp only [z_le (show q i < 2147483648 by omega) (show q j < 2147483648 by omega)]
      rw [pg_fj] at h4
      by_cases c : q i ≤ q j
      · rw [if_pos c] at h4 ⊢
        exact Or.inl ⟨_, rfl, by rw [← h4]; omega, by rw [h4]⟩
      · rw [if_neg c] at h4 ⊢
        have hne : j ≠ i + 1 := fun e => c (by rw [e]; exact hs)
        exact Or.inr ⟨j, by rw [q_1, z_sub (by omega)], ⟨by omega, by omega, by omega, h4⟩, Nat.lt_succ_self j⟩) 70000 n ⟨by omega, hi, Nat.le_refl _, rfl⟩ (by omega)
  exact ⟨g2.1, by rw [← g2.2]; exact g1⟩
theorem M_rv {n : Nat} (hn : n ≤ 6) : ∀ (f : Nat) (s : ax_S) (q : Nat → Nat) (a b : Nat), pg_R n s q → a ≤ n → b < n → (b + 1 - a) ≤ 2 * f → ∀ m, f < m → ∃ s', M_nextOrder_l80 m (nI a) (nI b) s = some s' ∧ pg_R n s' (pg_rv f q a b) ∧ (∀ c, c ≠ 81 → s'.2.1 c = s.2.1 c) := by
  intro f
  induction f with
  | zero =>
    intro s q a b hq ha hb hf m hm
    obtain ⟨m, rfl⟩ : ∃ j, m = j + 1 := ⟨m - 1, by omega⟩
    refine ⟨s, ?_, hq, fun _ _ => rfl⟩
    rw [M_nextOrder_l80, if_pos (by rw [z_le (by omega) (by omega)]; omega)]
  | succ f ih =>
    intro s q a b hq ha hb hf m hm
    obtain ⟨m, rfl⟩ : ∃ j, m = j + 1 := ⟨m - 1, by omega⟩
    rw [M_nextOrder_l80, pg_rv]
    simp only [z_le (show b < 2147483648 by omega) (show a < 2147483648 by omega)]
    by_cases c : b ≤ a
    · rw [if_pos c, if_pos c]
      exact ⟨s, rfl, hq, fun _ _ => rfl⟩
    · rw [if_neg c, if_neg c]
      obtain ⟨s1, e1, e2, e3⟩ := M_chg hn (show a < n by omega) hb hq
      obtain ⟨s2, e4, e5, e6⟩ := ih s1 (pg_sw q a b) (a + 1) (b - 1) e2 (by omega) (by omega) (by omega) m (by omega)
      refine ⟨s2, ?_, e5, fun c hc => by rw [e6 c hc, e3 c hc]⟩
      rw [e1]
      simp only []
      rw [z_1, show nI b + Int32.ofInt (-1) = nI (b - 1) from z_m1 (by omega)]
      exact e4
theorem M_next {s : ax_S} {n : Nat} {q : Nat → Nat} (hn1 : 1 ≤ n) (hn : n ≤ 6) (hq : pg_R n s q) (hb : ∀ k, k < n → q k < 1000) : (∃ q' s', pg_nx n q = some q' ∧ M_nextOrder (nI n) s = some (1, s') ∧ pg_R n s' q' ∧ (∀ c, c ≠ 81 → s'.2.1 c = s.2.1 c)) ∨ (pg_nx n q = none ∧ M_nextOrder (nI n) s = some (0, s)) := by
  unfold M_nextOrder pg_nx
  rcases M_fi hn hq hb hn1 (nI n) with ⟨i, h1, h2, h3, h4⟩ | ⟨h1, v, h2, h3⟩
  · obtain ⟨f1, f2⟩ := M_fj hn hq hb h2 h3 (nI n)
    obtain ⟨s1, e1, e2, e3⟩ := M_chg hn (show i < n by omega) f1 hq
    obtain ⟨s2, e4, e5, e6⟩ := M_rv hn 6 s1 _ (i + 1) (n - 1) e2 (by omega) (by omega) (by omega) 70000 (by omega)
    refine Or.inl ⟨_, s2, by rw [h1], ?_, e5, fun c hc => by rw [e6 c hc, e3 c hc]⟩
    have en : nI n - 1 = nI (n - 1) := by rw [q_1, z_sub (by omega)]
    rw [h4]
    simp only [en]
    rw [if_pos (nI_pos' (by omega)), f2]
    simp only [e1]
    rw [z_1, e4]
  · refine Or.inr ⟨by rw [h1], ?_⟩
    rw [h3]
    simp only []
    rw [if_neg (by intro q; exact absurd h2 (Int32.not_lt.mpr q))]
theorem pg_lq {n : Nat} (q : Nat → Nat) {k : Nat} (hk : k < n) : pg_q (pg_l n q) k = q k := by
  unfold pg_q pg_l
  rw [List.getD_eq_getElem?_getD, List.getElem?_map, List.getElem?_range hk]
  rfl
theorem M_124 {n : Nat} {B : Nat → Nat} (hv : pg_v B n) (hn1 : 1 ≤ n) (hn : n ≤ 6) : ∀ (f : Nat) (l : List Nat) (s : ax_S) (v : Nat), (∀ k, s.2.1 67 k &&& 255 = nI (B k)) → pg_R n s (pg_q l) → (pg_vis n f l).length ≤ f → (∀ l', l' ∈ pg_vis n f l → l'.length = n ∧ ∀ a, a ∈ l' → a < n) → v ≤ 6 → ∀ m, f + 1 < m → ∃ r s', M_pages_l124 m (nI n) (nI v) 1 s = some (nI r, s') ∧ (∀ c, c ≠ 81 → s'.2.1 c = s.2.1 c) ∧ (r = v ∨ ∃ l', l' ∈ pg_vis n f l ∧ r = pg_no B l') ∧ r ≤ v ∧ ∀ l', l' ∈ pg_vis n f l → l' ≠ l → r ≤ pg_no B l' := by
  intro f
  induction f with
  | zero =>
    intro l s v _ _ h
    exact absurd h (by show ¬ 1 ≤ 0; omega)
  | succ f ih =>
    intro l s v hM hR hlen hall hv6 m hm
    obtain ⟨m, rfl⟩ : ∃ j, m = j + 2 := ⟨m - 2, by omega⟩
    have hl := hall l (by rw [pg_vis]; exact List.mem_cons_self ..)
    have hb : ∀ k, k < n → pg_q l k < 1000 := fun k hk => by
      have : pg_q l k < n := by
        unfold pg_q
        rw [List.getD_eq_getElem?_getD, List.getElem?_eq_getElem (by omega)]
        exact hl.2 _ (List.getElem_mem _)
      omega
    have hmin : ∀ (a b : Nat) (t : ax_S), a < 1000 → b < 1000 → M_min (nI a) (nI b) t = nI (min a b) := fun a b t ha hb => by
      unfold M_min
      simp only [z_le (show b < 2147483648 by omega) (show a < 2147483648 by omega)]
      by_cases c : b ≤ a
      · rw [if_pos c, show min a b = b by omega]
      · rw [if_neg c, show min a b = a by omega]
    rw [M_pages_l124, if_neg (show ¬ (1 : Int32) = 0 by decide)]
    rcases M_next hn1 hn hR hb with ⟨q', s', e1, e2, e3, e4⟩ | ⟨e1, e2⟩
    · have enl : pg_nl n l = some (pg_l n q') := by unfold pg_nl; rw [e1]
      have evis : pg_vis n (f + 1) l = l :: pg_vis n f (pg_l n q') := by rw [pg_vis, enl]
      rw [evis] at hlen hall
      have hR' : pg_R n s' (pg_q (pg_l n q')) := fun k hk => by rw [pg_lq q' hk]; exact e3 k hk
      have hmem : pg_l n q' ∈ pg_vis n f (pg_l n q') := by
        cases f with
        | zero => exact List.mem_cons_self ..
        | succ f => rw [pg_vis]; exact List.mem_cons_self ..
      have hl' := hall _ (List.mem_cons_of_mem _ hmem)
      have hno := pg_no_le hv hl'.2 (by rw [hl'.1]; exact hn1)
      have hM' : ∀ k, s'.2.1 67 k &&& 255 = nI (B k) := fun k => by rw [e4 67 (by omega)]; exact hM k
      obtain ⟨r, s2, g1, g2, g3, g4, g5⟩ := ih (pg_l n q') s' (min v (pg_no B (pg_l n q'))) hM' hR' (by rw [List.length_cons] at hlen; omega) (fun l' h' => hall l' (List.mem_cons_of_mem _ h')) (by omega) (m + 1) (by omega)
      refine ⟨r, s2, ?_, fun c hc => by rw [g2 c hc, e4 c hc], ?_, by omega, fun l' h' hne => ?_⟩
      · rw [e2]
        simp only []
        rw [M_now13 hv hn hM' hR' hl'.1 hl'.2]
        simp only []
        rw [hmin v _ s' (by omega) (by omega)]
        exact g1
      · rw [evis]
        rcases g3 with q | ⟨l', h1, h2⟩
        · by_cases c : v ≤ pg_no B (pg_l n q')
          · exact Or.inl (by rw [q]; omega)
          · exact Or.inr ⟨_, List.mem_cons_of_mem _ hmem, by rw [q]; omega⟩
        · exact Or.inr ⟨l', List.mem_cons_of_mem _ h1, h2⟩
      · rw [evis] at h'
        rcases List.mem_cons.mp h' with rfl | h2
        · exact absurd rfl hne
        · by_cases e : l' = pg_l n q'
          · rw [e]; omega
          · exact g5 l' h2 e
    · have enl : pg_nl n l = none := by unfold pg_nl; rw [e1]
      have evis : pg_vis n (f + 1) l = [l] := by rw [pg_vis, enl]
      have hno := pg_no_le hv hl.2 (by rw [hl.1]; exact hn1)
      refine ⟨min v (pg_no B l), s, ?_, fun _ _ => rfl, ?_, by omega, fun l' h' hne => ?_⟩
      · rw [e2]
        simp only []
        rw [M_now13 hv hn hM hR hl.1 hl.2]
        simp only []
        rw [hmin v _ s (by omega) (by omega), M_pages_l124, if_pos rfl]
      · rw [evis]
        by_cases c : v ≤ pg_no B l
        · exact Or.inl (by omega)
        · exact Or.inr ⟨l, List.mem_cons_self .., by omega⟩
      · rw [evis] at h'
        rcases List.mem_cons.mp h' with rfl | h2
        · exact absurd rfl hne
        · cases h2
theorem pg_min_le (B : Nat → Nat) (n : Nat) (L : Nat → List Nat) : ∀ k m, pg_min B n L k m ≤ m ∧ (∀ o, o < k → pg_min B n L k m ≤ pg_no B (L o)) ∧ (pg_min B n L k m = m ∨ ∃ o, o < k ∧ pg_min B n L k m = pg_no B (L o))
  | 0, m => ⟨Nat.le_refl _, fun o ho => absurd ho (Nat.not_lt_zero _), Or.inl rfl⟩
  | k + 1, m => by
    obtain ⟨h1, h2, h3⟩ := pg_min_le B n L k m
    have e : pg_min B n L (k + 1) m = min (pg_min B n L k m) (pg_no B (L k)) := rfl
    refine ⟨by omega, fun o ho => ?_, ?_⟩
    · rcases Nat.lt_or_eq_of_le (Nat.lt_succ_iff.mp ho) with q | rfl
      · have := h2 o q; omega
      · omega
    · by_cases c : pg_min B n L k m ≤ pg_no B (L k)
      · rcases h3 with q | ⟨o, q1, q2⟩
        · exact Or.inl (by omega)
        · exact Or.inr ⟨o, by omega, by omega⟩
      · exact Or.inr ⟨k, by omega, by omega⟩
theorem pg_pxp {n : Nat} (hn1 : 1 ≤ n) : ∀ k left rest, left < 2 ^ n → (pg_px k left rest).length = k ∧ ∀ a, a ∈ pg_px k left rest → a < n
  | 0, _, _, _ => ⟨rfl, fun a ha => by cases ha⟩
  | k + 1, left, rest, h => by
    obtain ⟨h1, h2⟩ := pg_pxp hn1 k (x_sub left (2 ^ pg_bo left (rest % (k + 1)) 6 0 0)) (rest / (k + 1)) (Nat.lt_of_le_of_lt Nat.and_le_left h)
    rw [pg_px]
    refine ⟨by rw [List.length_cons, h1], fun a ha => ?_⟩
    rcases List.mem_cons.mp ha with rfl | q
    · exact pg_bo_lt hn1 h _ _ _ _
    · exact h2 a q
theorem X_valid {s : ax_S} {n : Nat} {B : Nat → Nat} (hBB : ∀ k, B k < 256) (hs : ∀ k, k < n → s.2.1 60 k = nI (B (2 * k)) ∧ s.2.1 61 k = nI (B (2 * k + 1))) (hn : n ≤ 6) (x2 : Int32) : (XSh_paste_l7 70000 (nI n) x2 0 s = some (.inl ()) ∧ pg_v B n) ∨ (XSh_paste_l7 70000 (nI n) x2 0 s = some (.inr (-2, s)) ∧ ¬ pg_v B n) := by
  obtain ⟨b, g1, g2⟩ := z_for (fun m k (_ : Unit) => XSh_paste_l7 m (nI n) x2 (nI k) s) n (fun k _ => pg_v B k) (fun v => (v = .inl () ∧ pg_v B n) ∨ (v = .inr (-2, s) ∧ ¬ pg_v B n)) (fun m _ ha => ⟨.inl (), by
      show XSh_paste_l7 (m + 1) (nI n) x2 (nI n) s = _
      rw [XSh_paste_l7]
      exact if_pos (Int32.le_refl _), Or.inl ⟨rfl, ha⟩⟩) (fun m k _ hk ha => by
      show (∃ b, XSh_paste_l7 (m + 1) (nI n) x2 (nI k) s = some b ∧ _) ∨ ∃ _ : Unit, XSh_paste_l7 (m + 1) (nI n) x2 (nI k) s = XSh_paste_l7 m (nI n) x2 (nI (k + 1)) s ∧ _
      have b1 := hBB (2 * k)
      have b2 := hBB (2 * k + 1)
      rw [XSh_paste_l7]
      simp (disch := omega) only [q_10, z_cl, z_lt0, z_le, z_nle, z_1, if_false, or_self]
      rw [(hs k hk).1, (hs k hk).2]
      have e : (X_isOnPrint 0 0 (nI (B (2 * k))) (nI (B (2 * k + 1))) s = 0) = ¬ (1 ≤ B (2 * k) ∧ B (2 * k) ≤ 16 ∧ 1 ≤ B (2 * k + 1) ∧ B (2 * k + 1) ≤ 12) := by
        unfold X_isOnPrint X_isWithin
        rw [show (16 : Int32) - 0 = nI 16 from rfl, show (12 : Int32) - 0 = nI 12 from rfl]
        simp (disch := omega) only [q_1, z_lt]
        by_cases c1 : B (2 * k) < 1 <;> by_cases c2 : 16 < B (2 * k) <;> by_cases c3 : B (2 * k + 1) < 1 <;> by_cases c4 : 12 < B (2 * k + 1) <;> simp [c1, c2, c3, c4, nI_0, show ¬ (nI 1 = 0) by decide] <;> omega
      simp only [e]
      by_cases c : 1 ≤ B (2 * k) ∧ B (2 * k) ≤ 16 ∧ 1 ≤ B (2 * k + 1) ∧ B (2 * k + 1) ≤ 12
      · rw [if_neg (not_not_intro c)]
        refine Or.inr ⟨(), rfl, fun i hi => ?_⟩
        rcases Nat.lt_or_eq_of_le (Nat.lt_succ_iff.mp hi) with q | rfl
        · exact ha i q
        · exact c
      · rw [if_pos c]
        exact Or.inl ⟨_, rfl, Or.inr ⟨rfl, fun q => c (q k hk)⟩⟩) 70000 0 () (Nat.zero_le _) (fun i hi => absurd hi (Nat.not_lt_zero _)) (by omega)
  have g1 : XSh_paste_l7 70000 (nI n) x2 0 s = some b := g1
  rcases g2 with ⟨rfl, q⟩ | ⟨rfl, q⟩
  · exact Or.inl ⟨g1, q⟩
  · exact Or.inr ⟨g1, q⟩
theorem M_valid {s : ax_S} {n : Nat} {B : Nat → Nat} (hBB : ∀ k, B k < 256) (hM : ∀ k, s.2.1 67 k &&& 255 = nI (B k)) (hn : n ≤ 6) (x2 : Int32) : (M_pages_l38 70000 (nI n) x2 0 s = some (.inl ()) ∧ pg_v B n) ∨ (M_pages_l38 70000 (nI n) x2 0 s = some (.inr (-2, s)) ∧ ¬ pg_v B n) := by
  obtain ⟨b, g1, g2⟩ := z_for (fun m k (_ : Unit) => M_pages_l38 m (nI n) x2 (nI k) s) n (fun k _ => pg_v B k) (fun v => (v = .inl () ∧ pg_v B n) ∨ (v = .inr (-2, s) ∧ ¬ pg_v B n)) (fun m _ ha => ⟨.inl (), by
      show M_pages_l38 (m + 1) (nI n) x2 (nI n) s = _
      rw [M_pages_l38]
      exact if_pos (Int32.le_refl _), Or.inl ⟨rfl, ha⟩⟩) (fun m k _ hk ha => by
      show (∃ b, M_pages_l38 (m + 1) (nI n) x2 (nI k) s = some b ∧ _) ∨ ∃ _ : Unit, M_pages_l38 (m + 1) (nI n) x2 (nI k) s = M_pages_l38 m (nI n) x2 (nI (k + 1)) s ∧ _
      have b1 := hBB (2 * k)
      have b2 := hBB (2 * k + 1)
      rw [M_pages_l38, if_neg (by rw [z_le (by omega) (by omega)]; omega), q_2, pk_mul, z_1, z_1, MB hM (by omega), MB hM (by omega)]
      unfold M_in
      simp only [q_1, q_16, q_12, z_lt (show B (2 * k) < 2147483648 by omega) (show 1 < 2147483648 by omega), z_lt (show 16 < 2147483648 by omega) (show B (2 * k) < 2147483648 by omega), z_lt (show B (2 * k + 1) < 2147483648 by omega) (show 1 < 2147483648 by omega), z_lt (show 12 < 2147483648 by omega) (show B (2 * k + 1) < 2147483648 by omega)]
      by_cases c : 1 ≤ B (2 * k) ∧ B (2 * k) ≤ 16 ∧ 1 ≤ B (2 * k + 1) ∧ B (2 * k + 1) ≤ 12
      · refine Or.inr ⟨(), ?_, fun i hi => ?_⟩
        · rw [if_neg (show ¬ B (2 * k) < 1 by omega), if_neg (show ¬ 16 < B (2 * k) by omega), if_neg (show ¬ B (2 * k + 1) < 1 by omega), if_neg (show ¬ 12 < B (2 * k + 1) by omega), if_neg (show ¬ nI 1 = 0 by decide), if_neg (show ¬ nI 1 = 0 by decide)]
        · rcases Nat.lt_or_eq_of_le (Nat.lt_succ_iff.mp hi) with q | rfl
          · exact ha i q
          · exact c
      · refine Or.inl ⟨.inr (-2, s), ?_, Or.inr ⟨rfl, fun q => c (q k hk)⟩⟩
        by_cases c1 : B (2 * k) < 1
        · rw [if_pos c1, if_pos rfl]; rfl
        · rw [if_neg c1]
          by_cases c2 : 16 < B (2 * k)
          · rw [if_pos c2, if_pos rfl]; rfl
          · rw [if_neg c2, if_neg (show ¬ nI 1 = 0 by decide)]
            by_cases c3 : B (2 * k + 1) < 1
            · rw [if_pos c3, if_pos rfl]; rfl
            · rw [if_neg c3, if_pos (show 12 < B (2 * k + 1) by omega), if_pos rfl]; rfl) 70000 0 () (Nat.zero_le _) (fun i hi => absurd hi (Nat.not_lt_zero _)) (by omega)
  have g1 : M_pages_l38 70000 (nI n) x2 0 s = some b := g1
  rcases g2 with ⟨rfl, q⟩ | ⟨rfl, q⟩
  · exact Or.inl ⟨g1, q⟩
  · exact Or.inr ⟨g1, q⟩
theorem M_id {s : ax_S} {n : Nat} (hn : n ≤ 6) (x2 : Int32) : ∃ s', M_pages_l88 70000 (nI n) x2 0 s = some s' ∧ pg_R n s' (pg_q (List.range n)) ∧ (∀ c, c ≠ 81 → s'.2.1 c = s.2.1 c) := by
  obtain ⟨b, g1, g2⟩ := z_for (fun m k (a : ax_S) => M_pages_l88 m (nI n) x2 (nI k) a) n (fun j a => (∀ k, k < j → a.2.1 81 k = nI k) ∧ (∀ c, c ≠ 81 → a.2.1 c = s.2.1 c)) (fun a => (∀ k, k < n → a.2.1 81 k = nI k) ∧ (∀ c, c ≠ 81 → a.2.1 c = s.2.1 c)) (fun m a ha => ⟨a, by
      show M_pages_l88 (m + 1) (nI n) x2 (nI n) a = some a
      rw [M_pages_l88]
      exact if_pos (Int32.le_refl _), ha⟩) (fun m k a hk ha => Or.inr ⟨ax_sI a 81 k (nI k), by
      show M_pages_l88 (m + 1) (nI n) x2 (nI k) a = M_pages_l88 m (nI n) x2 (nI (k + 1)) _
      rw [M_pages_l88]
      simp (disch := omega) only [z_cl, z_lt0, z_le, z_nle, z_1, if_false, or_self], fun j hj => by
      rw [r_Ie]
      by_cases e : j = k
      · subst e; rw [r_u]
      · rw [r_un e]; exact ha.1 j (by omega), fun c hc => by rw [r_I hc]; exact ha.2 c hc⟩) 70000 0 s (Nat.zero_le _) ⟨fun k hk => absurd hk (Nat.not_lt_zero _), fun _ _ => rfl⟩ (by omega)
  refine ⟨b, g1, fun k hk => ?_, g2.2⟩
  unfold pg_q
  rw [List.getD_eq_getElem?_getD, List.getElem?_range hk]
  exact g2.1 k hk
theorem pg_allp {n : Nat} (h1 : 1 ≤ n) (h : n ≤ 6) : (pg_all n).length = pg_f n ∧ (∀ o, o < pg_f n → pg_px n (2 ^ n - 1) o ∈ pg_all n) ∧ (∀ l, l ∈ pg_all n → ∃ o, o < pg_f n ∧ pg_px n (2 ^ n - 1) o = l) ∧ pg_px n (2 ^ n - 1) 0 = List.range n := by
  have hc := pg_c h1 h
  unfold pg_ck at hc
  rw [Bool.and_eq_true, Bool.and_eq_true, Bool.and_eq_true] at hc
  have hlen := Nat.eq_of_beq_eq_true hc.1.1.1
  refine ⟨hlen, fun o ho => ?_, pg_ck2_eq n _ 0 hc.1.2, pg_leq_eq _ _ hc.2⟩
  obtain ⟨e1, e2⟩ := pg_ck1_eq n _ _ hc.1.1.2 o ho
  rw [e2, List.getD_eq_getElem?_getD, List.getElem?_eq_getElem (by rw [hlen]; exact e1)]
  exact List.getElem_mem _
theorem y_pages (x w : Int32) (s : ax_S) (h : y_inv s.2.1) : y_sim (X_pages x w) (M_pages x w) s := by
  rcases z_inX (x := x) (s := s) 1 6 (by omega) (by omega) with h1 | ⟨h1, n, hn1, hn, rfl⟩
  · have h1 : M_in x 1 6 s = 0 := h1
    exact y_same h (-1) (by unfold X_pages; rw [X_within_eq, if_pos h1]) (by unfold M_pages; rw [if_pos h1])
  have a1 : ∀ t, ¬ M_in (nI n) 1 6 t = 0 := fun t => z_innX (x := 0) 1 6 (by omega) (by omega) hn1 hn
  rcases z_inX (x := w) (s := s) 0 1 (by omega) (by omega) with h3 | ⟨h3, k, -, hk, rfl⟩
  · have h3 : M_in w 0 1 s = 0 := h3
    exact y_same h (-1) (by unfold X_pages; rw [X_within_eq, if_neg (a1 s), X_within_eq, if_pos h3]) (by unfold M_pages; rw [if_neg (a1 s), if_pos h3])
  have a3 : ∀ t, ¬ M_in (nI k) 0 1 t = 0 := fun t => z_innX (x := 0) 0 1 (by omega) (by omega) (Nat.zero_le _) hk
  obtain ⟨l, B, hl, e1, e2, eB, eX, eM⟩ := y_tpB h.2.2.2.1
  have e2n : (2 : Int32) * nI n = nI (2 * n) := by rw [q_2, pk_mul]
  by_cases c : l < 2 * n
  · exact y_same h (-1) (by unfold X_pages; rw [X_within_eq, if_neg (a1 s), X_within_eq, if_neg (a3 s), e2n, if_pos (by rw [X_holds_n hl (by omega) e1]; exact c)]) (by unfold M_pages; rw [if_neg (a1 s), if_neg (a3 s), e2n, e2, if_neg (by rw [z_le (by omega) (by omega)]; omega)])
  have hmm : nI (2 * n) ≤ nI l := by rw [z_le (by omega) (by omega)]; omega
  obtain ⟨s1, u1, u2, u3⟩ := X_sizes_eq hl e1 eX (show 2 * n ≤ l by omega) (show n ≤ 10 by omega)
  have XE : ∀ v s3, XSh_paste (nI n) (X_pages_j41 (nI n) (nI k) s) s = some (v, s3) → X_pages (nI n) (nI k) s = some (v, XTa_clear s3) := fun v s3 hv => by
    unfold X_pages
    rw [X_within_eq, if_neg (a1 s), X_within_eq, if_neg (a3 s), e2n, if_neg (by rw [X_holds_n hl (by omega) e1]; exact c), hv]
  have fin : ∀ (t t2 : ax_S), (∀ c, c ≠ 59 → t.2.1 c = s1.2.1 c) → (∀ c, c ≠ 81 → t2.2.1 c = (ax_sI (XTa_clear t) 63 5 0).2.1 c) → y_inv t2.2.1 := fun t t2 f1 f2 => by
    refine y_emp h ?_ ?_ fun c j k => ?_
    · rw [f2 1 (by omega), r_I (by omega)]
      unfold XTa_clear
      rw [r_Ie, r_u]
    · rw [f2 63 (by omega), r_Ie, r_u]
    · rw [f2 c (by omega), r_one c j (by omega)]
      unfold XTa_clear
      rw [r_one c j (by omega), f1 c (by omega), u3 c (by omega) (by omega)]
  have m63 : ∀ (t : ax_S), (∀ c, c ≠ 59 → t.2.1 c = s1.2.1 c) → (XTa_clear t).2.1 63 5 = nI l := fun t f1 => by
    unfold XTa_clear
    rw [r_I (by omega), f1 63 (by omega), u3 63 (by omega) (by omega)]
    exact e2
  have m67 : ∀ (t : ax_S), (∀ c, c ≠ 59 → t.2.1 c = s1.2.1 c) → ∀ k, (ax_sI (XTa_clear t) 63 5 0).2.1 67 k &&& 255 = nI (B k) := fun t f1 k => by
    unfold XTa_clear
    rw [r_I (by omega), r_I (by omega), f1 67 (by omega), u3 67 (by omega) (by omega)]
    exact eM k
  rcases X_valid eB u2 hn (X_pages_j41 (nI n) (nI k) s) with ⟨w1, hv⟩ | ⟨w1, hv⟩
  · obtain ⟨f1, f2, f3⟩ := pg_52 n (by omega) hn1
    obtain ⟨al, a2, a4, a5⟩ := pg_allp hn1 hn
    have hk2 : k = 0 ∨ k = 1 := by omega
    have hN : ∃ N, XSh_paste_l52 70000 (nI n) (X_pages_j41 (nI n) (nI k) s) 1 2 s1 = some (nI N) ∧ ((k = 0 ∧ N = 1) ∨ (k = 1 ∧ N = pg_f n)) ∧ 1 ≤ N ∧ N ≤ 720 := by
      rw [pg_ind s1]
      have hf1 : 1 ≤ pg_f n := by
        have : n = 1 ∨ n = 2 ∨ n = 3 ∨ n = 4 ∨ n = 5 ∨ n = 6 := by omega
        rcases this with rfl | rfl | rfl | rfl | rfl | rfl <;> decide
      rcases hk2 with rfl | rfl
      · exact ⟨1, f2, Or.inl ⟨rfl, rfl⟩, Nat.le_refl _, by omega⟩
      · exact ⟨pg_f n, f1, Or.inr ⟨rfl, rfl⟩, hf1, f3⟩
    obtain ⟨N, n1, n2, n3, n4⟩ := hN
    obtain ⟨s2, v1, v2⟩ := X_orders_eq (s := s1) hv hn1 hn u2 n4
    have hM0 := m67 s2 v2
    obtain ⟨s3, i1, i2, i3⟩ := M_id (s := ax_sI (XTa_clear s2) 63 5 0) hn (nI k)
    have hM3 : ∀ k, s3.2.1 67 k &&& 255 = nI (B k) := fun k => by rw [i3 67 (by omega)]; exact hM0 k
    have hrl : (List.range n).length = n := List.length_range
    have hrm : ∀ a, a ∈ List.range n → a < n := fun a ha => List.mem_range.mp ha
    have hno := pg_no_le hv hrm (by rw [hrl]; exact hn1)
    rw [hrl] at hno
    have hM1 : M_pages_l38 70000 (nI n) (nI k) 0 (ax_sI (XTa_clear s2) 63 5 0) = some (.inl ()) := by
      rcases M_valid eB hM0 hn (nI k) with ⟨q, -⟩ | ⟨-, q⟩
      · exact q
      · exact absurd hv q
    obtain ⟨p1, p2, p3⟩ := pg_min_le B n (fun o => pg_px n (2 ^ n - 1) o) N n
    have hres : ∃ s4, M_pages_l124 70000 (nI n) (nI (pg_no B (List.range n))) (M_pages_j114 (nI n) (nI (pg_no B (List.range n))) (nI k) s3) s3 = some (nI (pg_min B n (fun o => pg_px n (2 ^ n - 1) o) N n), s4) ∧ (∀ c, c ≠ 81 → s4.2.1 c = s3.2.1 c) := by
      rcases n2 with ⟨rfl, rfl⟩ | ⟨rfl, rfl⟩
      · refine ⟨s3, ?_, fun _ _ => rfl⟩
        have e : pg_min B n (fun o => pg_px n (2 ^ n - 1) o) 1 n = pg_no B (List.range n) := by
          show min n (pg_no B (pg_px n (2 ^ n - 1) 0)) = _
          rw [a5]
          omega
        rw [e]
        rfl
      · have hvis : ∀ l', l' ∈ pg_vis n (pg_f n) (List.range n) → l'.length = n ∧ ∀ a, a ∈ l' → a < n := fun l' h' => by
          obtain ⟨o, -, eo⟩ := a4 l' h'
          rw [← eo]
          exact pg_pxp hn1 n _ _ (by have : 1 ≤ 2 ^ n := Nat.one_le_two_pow; omega)
        obtain ⟨r, s4, g1, g2, g3, g4, g5⟩ := M_124 hv hn1 hn (pg_f n) (List.range n) s3 (pg_no B (List.range n)) hM3 i2 (by show (pg_all n).length ≤ _; omega) hvis (by omega) 70000 (by omega)
        refine ⟨s4, ?_, g2⟩
        have e : r = pg_min B n (fun o => pg_px n (2 ^ n - 1) o) (pg_f n) n := by
          have hr0 : r ≤ pg_no B (List.range n) := g4
          have hup : ∀ l', l' ∈ pg_all n → r ≤ pg_no B l' := fun l' h' => by
            by_cases e : l' = List.range n
            · rw [e]; exact hr0
            · exact g5 l' h' e
          have hlow : pg_min B n (fun o => pg_px n (2 ^ n - 1) o) (pg_f n) n ≤ r := by
            rcases g3 with q | ⟨l', h', q⟩
            · have := p2 0 (by omega)
              rw [a5] at this
              omega
            · obtain ⟨o, ho, eo⟩ := a4 l' h'
              have := p2 o ho
              rw [eo] at this
              omega
          rcases p3 with q | ⟨o, ho, q⟩
          · have := hup _ (a2 0 (by omega))
            rw [a5] at this
            omega
          · have := hup _ (a2 o ho)
            omega
        rw [← e]
        exact g1
    obtain ⟨s4, r1, r2⟩ := hres
    refine ⟨nI (pg_min B n (fun o => pg_px n (2 ^ n - 1) o) N n), XTa_clear s2, s4, XE _ s2 ?_, ?_, fin s2 s4 v2 fun c hc => by rw [r2 c hc, i3 c hc]⟩
    · unfold XSh_paste
      simp only [u1, w1, n1, v1]
    · unfold M_pages
      rw [if_neg (a1 _), if_neg (a3 _), e2n, m63 s2 v2, if_pos hmm, hM1]
      simp only [i1, M_now13 hv hn hM3 i2 hrl hrm, r1]
  · have hM1 : M_pages_l38 70000 (nI n) (nI k) 0 (ax_sI (XTa_clear s1) 63 5 0) = some (.inr (-2, ax_sI (XTa_clear s1) 63 5 0)) := by
      rcases M_valid eB (m67 s1 fun _ _ => rfl) hn (nI k) with ⟨-, q⟩ | ⟨q, -⟩
      · exact absurd q hv
      · exact q
    refine ⟨-2, XTa_clear s1, ax_sI (XTa_clear s1) 63 5 0, XE _ s1 ?_, ?_, fin s1 _ (fun _ _ => rfl) fun _ _ => rfl⟩
    · unfold XSh_paste
      simp only [u1, w1]
    · unfold M_pages
      rw [if_neg (a1 _), if_neg (a3 _), e2n, m63 s1 fun _ _ => rfl, if_pos hmm, hM1]
