/-! both readers together -/
theorem t_amount {B : Nat → Nat} {n a : Nat} {sX sM : ax_S} (h : t_X B n a sX) (g : t_M B n a sM) (hB : ∀ k, B k < 256) (hn : n ≤ 260) (ha : a ≤ n) :
    ∃ x tX y tM, XTa_readNumber 2 sX = some (x, tX) ∧ M_readsAmount sM = some (y, tM) ∧ t_K sX tX ∧ t_N sM tM ∧ tX.2.1 1 4 = nI a ∧ ((y = 1 ∧ ∃ v b, v ≤ 99 ∧ a < b ∧ b ≤ n ∧ x = nI v ∧ tM.2.1 63 9 = nI v ∧ t_X B n b tX ∧ t_M B n b tM) ∨ (y = 0 ∧ t_F tX tM)) := by
  obtain ⟨k, hk, h1, h2⟩ := t_cnt B n 2 a
  obtain ⟨x, tX, e1, e2, e3, e4, e5⟩ := p_num h hB hn ha 2 k (by omega) hk h1 h2
  obtain ⟨x', tX', f1, f2⟩ := a_num 2 (by omega) sX
  rw [e1] at f1
  obtain ⟨rfl, rfl⟩ : x = x' ∧ tX = tX' := by simpa using f1
  obtain ⟨y, tM, g1, g2, g3, g4, g5⟩ := q_amt g hB hn ha k hk h1 h2
  refine ⟨x, tX, y, tM, e1, g1, f2, g2, e2, ?_⟩
  have hak := t_end ha h1
  rcases Nat.eq_zero_or_pos k with c | c
  · exact Or.inr ⟨(g3 c).1, 1, a, by omega, by omega, by omega, e3 c, (g3 c).2⟩
  · by_cases d : t_dg B n (a + k) = true
    · exact Or.inr ⟨(g4 c d).1, 2, a + k, by omega, by omega, by omega, e4 c d, (g4 c d).2⟩
    · have d : t_dg B n (a + k) = false := by simpa using d
      have hv := t_dv_lt k h1
      have h3 : 10 ^ k ≤ 10 ^ 2 := Nat.pow_le_pow_right (by omega) (by omega)
      have h4 : (10 : Nat) ^ 2 = 100 := by decide
      exact Or.inl ⟨(g5 c d).1, t_dv B a k, a + k, by omega, by omega, hak, (e5 c d).1, (g5 c d).2.1, (e5 c d).2, (g5 c d).2.2⟩
theorem t_tk {B : Nat → Nat} {n a : Nat} {sX sM : ax_S} (h : t_X B n a sX) (g : t_M B n a sM) (hB : ∀ k, B k < 256) (hn : n ≤ 260) (ha : a ≤ n) (c : Nat) (hc : c < 256) :
    ∃ x tX tM, XTa_take (nI c) sX = some (x, tX) ∧ M_takes (nI c) sM = some (x, tM) ∧ t_K sX tX ∧ t_N sM tM ∧ ((x = 1 ∧ a < n ∧ t_X B n (a + 1) tX ∧ t_M B n (a + 1) tM ∧ tM.2.1 63 9 = sM.2.1 63 9) ∨ (x = 0 ∧ t_F tX tM)) := by
  unfold XTa_take M_takes
  rw [p_peek h hn (by omega), p_here g hn (by omega)]
  by_cases d : t_ch B n a = nI c
  · refine ⟨1, XTa_step sX, ax_sI sM 63 6 (sM.2.1 63 6 + 1), by simp only [d, if_true]; rfl, by simp only [d, if_true], (X_st h).2, (M_st g).2, Or.inl ⟨rfl, ?_, (X_st h).1, (M_st g).1, r_one _ _ (by omega)⟩⟩
    unfold t_ch at d
    by_cases e : a < n
    · exact e
    · rw [if_neg e] at d
      exact absurd d.symm (by rw [z_nne (by omega)]; exact id)
  · obtain ⟨w1, w2, w3⟩ := M_wr 1 a sM
    refine ⟨0, XTa_refuseAt (nI 1) (nI a) sX, (M_wrongAt (nI 1) (nI a) sM).2, by simp only [d, if_false, h.2.1]; rfl, by simp only [d, if_false, g.2.1]; rfl, K_ref _ _ _, w3, Or.inr ⟨rfl, 1, a, by omega, by omega, by omega, X_rf h _ _, w2⟩⟩
theorem t_win {B : Nat → Nat} {n a : Nat} {sX sM : ax_S} (h : t_X B n a sX) (g : t_M B n a sM) (hB : ∀ k, B k < 256) (hn : n ≤ 260) (ha : a ≤ n) (lo hi : Nat) (hlo : lo ≤ 1000) (hhi : hi ≤ 1000) :
    ∃ x tX, XPrRe_readWithin (nI lo) (nI hi) sX = some (x, tX) ∧ t_K sX tX ∧
      ((∃ v b tM, v ≤ 99 ∧ lo ≤ v ∧ v ≤ hi ∧ a < b ∧ b ≤ n ∧ x = nI v ∧ t_X B n b tX ∧ t_M B n b tM ∧ t_N sM tM ∧ tM.2.1 63 9 = nI v ∧ ∀ c, M_readsWithin (nI lo) (nI hi) c sM = if c = -1 then some ((1 : Int32), tM) else match M_takes c tM with
            | none => none
            | some (w, u) => if w = 0 then some ((0 : Int32), u) else some ((1 : Int32), u)) ∨ (∃ tM, (∀ c, M_readsWithin (nI lo) (nI hi) c sM = some (0, tM)) ∧ t_N sM tM ∧ t_F tX tM)) := by
  obtain ⟨x, tX, y, tM, e1, g1, e2, g2, e3, e4⟩ := t_amount h g hB hn ha
  unfold XPrRe_readWithin
  rw [e1]
  unfold M_readsWithin
  rw [g1]
  rcases e4 with ⟨rfl, v, b, h1, h2, h3, rfl, h5, h6, h7⟩ | ⟨rfl, h5⟩
  · have hX : ∀ q p, (XTa_refuseAt (nI q) (nI p) tX).2.1 1 5 = t_fc q p := fun q p => X_rf h6 q p
    have hR : XTa_refuseNumber 3 tX = XTa_refuseAt (nI 3) (nI a) tX := by unfold XTa_refuseNumber; rw [e3]; rfl
    obtain ⟨w1, w2, w3⟩ := M_wr 3 a tM
    have bad : M_in (nI v) (nI lo) (nI hi) tM = 0 → (∃ tM', (∀ c, (match (some ((1 : Int32), tM) : Option (Int32 × ax_S)) with
        | none => none
        | some (v1, s2) => if v1 = 0 then some ((0 : Int32), s2) else if M_in (s2.2.1 63 9) (nI lo) (nI hi) s2 = 0 then some ((M_wrongAt 3 (sM.2.1 63 6) s2).1, (M_wrongAt 3 (sM.2.1 63 6) s2).2) else if c = -1 then some (1, s2) else match M_takes c s2 with
          | none => none
          | some (v3, s4) => if v3 = 0 then some (0, s4) else some (1, s4)) = some (0, tM')) ∧ t_N sM tM' ∧ t_F (XTa_refuseAt (nI 3) (nI a) tX) tM') := fun hin => by
      refine ⟨(M_wrongAt (nI 3) (nI a) tM).2, fun c => ?_, N_tr g2 w3, 3, a, by omega, by omega, by omega, hX _ _, w2⟩
      show (if (1 : Int32) = 0 then _ else _) = _
      rw [if_neg (by decide), h5, if_pos hin, g.2.1]
      rfl
    show ∃ x tX', (if nI v < nI lo then some (nI v, XTa_refuseNumber 3 tX) else if nI v ≤ nI hi then some (nI v, tX) else some (nI v, XTa_refuseNumber 3 tX)) = some (x, tX') ∧ _
    rw [hR]
    have l1 : nI v < nI lo ↔ v < lo := by rw [z_lt (by omega) (by omega)]
    have l2 : nI v ≤ nI hi ↔ v ≤ hi := by rw [z_le (by omega) (by omega)]
    have hin : M_in (nI v) (nI lo) (nI hi) tM = if v < lo then 0 else if hi < v then 0 else 1 := by
      unfold M_in
      simp (disch := omega) only [z_lt]
    by_cases c1 : v < lo
    · exact ⟨nI v, _, by rw [if_pos (l1.mpr c1)], K_tr e2 (K_ref _ _ _), Or.inr (bad (by rw [hin, if_pos c1]))⟩
    · by_cases c2 : v ≤ hi
      · refine ⟨nI v, tX, by rw [if_neg (fun e => c1 (l1.mp e)), if_pos (l2.mpr c2)], e2, Or.inl ⟨v, b, tM, h1, by omega, c2, h2, h3, rfl, h6, h7, g2, h5, fun c => ?_⟩⟩
        show (if (1 : Int32) = 0 then _ else _) = _
        rw [if_neg (by decide), h5]
        exact (if_neg (show ¬ M_in (nI v) (nI lo) (nI hi) tM = 0 by rw [hin, if_neg c1, if_neg (by omega)]; decide)).trans rfl
      · exact ⟨nI v, _, by rw [if_neg (fun e => c1 (l1.mp e)), if_neg (fun e => c2 (l2.mp e))], K_tr e2 (K_ref _ _ _), Or.inr (bad (by rw [hin, if_neg c1, if_pos (by omega)]))⟩
  · obtain ⟨x', tX', f1, f2⟩ := a_within (nI lo) (nI hi) sX
    unfold XPrRe_readWithin at f1
    rw [e1] at f1
    have f3 : t_K tX tX' := by
      revert f1
      show (if x < nI lo then some (x, XTa_refuseNumber 3 tX) else if x ≤ nI hi then some (x, tX) else some (x, XTa_refuseNumber 3 tX)) = some (x', tX') → _
      split
      · intro f; cases f; exact K_ref _ _ _
      · split
        · intro f; cases f; exact K_refl _
        · intro f; cases f; exact K_ref _ _ _
    refine ⟨x', tX', f1, f2, Or.inr ⟨tM, fun c => rfl, g2, ?_⟩⟩
    obtain ⟨q, p, h6, h7, h8, h9, h10⟩ := h5
    exact ⟨q, p, h6, h7, h8, by rw [f3.1 (by rw [h9]; exact (t_fc_ne h6 h7 h8).1)]; exact h9, h10⟩
/-- a fault stays -/
theorem F_K {s t u : ax_S} (h : t_F s u) (k : t_K s t) : t_F t u := by
  obtain ⟨q, p, h6, h7, h8, h9, h10⟩ := h
  exact ⟨q, p, h6, h7, h8, by rw [k.1 (by rw [h9]; exact (t_fc_ne h6 h7 h8).1)]; exact h9, h10⟩
/-- within and the sign behind it -/
theorem t_winT {B : Nat → Nat} {n a : Nat} {sX sM : ax_S} (h : t_X B n a sX) (g : t_M B n a sM) (hB : ∀ k, B k < 256) (hn : n ≤ 260) (ha : a ≤ n) (lo hi c : Nat) (hlo : lo ≤ 1000) (hhi : hi ≤ 1000) (hc : c < 256) :
    ∃ x tX w uX y tM, XPrRe_readWithin (nI lo) (nI hi) sX = some (x, tX) ∧ XTa_take (nI c) tX = some (w, uX) ∧ M_readsWithin (nI lo) (nI hi) (nI c) sM = some (y, tM) ∧ t_K sX uX ∧ t_N sM tM ∧
      ((y = 1 ∧ ∃ v b, v ≤ 99 ∧ lo ≤ v ∧ v ≤ hi ∧ a < b ∧ b ≤ n ∧ x = nI v ∧ tM.2.1 63 9 = nI v ∧ t_X B n b uX ∧ t_M B n b tM) ∨ (y = 0 ∧ t_F uX tM)) := by
  obtain ⟨x, tX, e1, e2, e3⟩ := t_win h g hB hn ha lo hi hlo hhi
  have hc1 : ¬ nI c = -1 := by rw [z_nne (by omega)]; exact id
  rcases e3 with ⟨v, b, tM, h1, h2, h3, h4, h5, h6, h7, h8, h9, h10, h11⟩ | ⟨tM, h1, h2, h3⟩
  · obtain ⟨w, uX, uM, f1, f2, f3, f4, f5⟩ := t_tk h7 h8 hB hn h5 c hc
    refine ⟨x, tX, w, uX, w, uM, e1, f1, ?_, K_tr e2 f3, N_tr h9 f4, ?_⟩
    · rw [h11, if_neg hc1, f2]
      rcases f5 with ⟨rfl, -⟩ | ⟨rfl, -⟩ <;> rfl
    · rcases f5 with ⟨f6, f7, f8, f9, f10⟩ | f6
      · exact Or.inl ⟨f6, v, b + 1, h1, h2, h3, by omega, by omega, h6, by rw [f10]; exact h10, f8, f9⟩
      · exact Or.inr f6
  · obtain ⟨w, uX, f1, f2⟩ := a_take (nI c) tX
    exact ⟨x, tX, w, uX, 0, tM, e1, f1, h1 _, K_tr e2 f2, h2, Or.inr ⟨rfl, F_K h3 f2⟩⟩
