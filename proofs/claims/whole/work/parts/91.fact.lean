/-! law: numbers, letters, what a factor is -/
theorem q_num {B : Nat → Nat} {n a : Nat} {s : ax_S} (h : t_M B n a s) (hB : ∀ k, B k < 256) (hn : n ≤ 260) (ha : a ≤ n) (k : Nat) (hk : k ≤ 5) (h1 : ∀ j, j < k → t_dg B n (a + j) = true) (h2 : k = 5 ∨ t_dg B n (a + k) = false) :
    ∃ v t, M_readsNumber s = some (v, t) ∧ t_N s t ∧ (t_dg B n (a + k) = true → v = 0 ∧ t.2.1 63 8 = t_fc 2 (a + k)) ∧ (t_dg B n (a + k) = false → v = 1 ∧ t.2.1 63 9 = nI (t_dv B a k) ∧ t_M B n (a + k) t) := by
  have hak := t_end ha h1
  unfold M_readsNumber
  obtain ⟨⟨v, t⟩, e1, e2⟩ := z_for (fun n' j (st : ax_S) => M_readsNumber_l10 n' (nI a) st) k (fun j st => st.2.1 63 9 = nI (t_dv B a j) ∧ t_M B n (a + j) st ∧ t_N s st) (fun b => t_N s b.2 ∧ (t_dg B n (a + k) = true → b.1 = 0 ∧ b.2.2.1 63 8 = t_fc 2 (a + k)) ∧ (t_dg B n (a + k) = false → b.1 = 1 ∧ b.2.2.1 63 9 = nI (t_dv B a k) ∧ t_M B n (a + k) b.2)) (fun n' st hst => by
      show ∃ b, M_readsNumber_l10 (n' + 1) (nI a) st = some b ∧ _
      rw [M_readsNumber_l10, p_mdig hst.2.1 hB hn (by omega)]
      by_cases c2 : t_dg B n (a + k) = true
      · have hk2 : k = 5 := by
          rcases h2 with h2 | h2
          · exact h2
          · rw [c2] at h2; exact absurd h2 (by decide)
        obtain ⟨w1, w2, w3⟩ := M_wr 2 (a + k) st
        refine ⟨(0, (M_wrongAt (nI 2) (nI (a + k)) st).2), ?_, N_tr hst.2.2 w3, fun _ => ⟨rfl, w2⟩, fun c3 => by rw [c2] at c3; exact absurd c3 (by decide)⟩
        rw [c2, hst.2.1.2.1, hk2]
        show (if (1 : Int32) = 0 then _ else if nI (a + 5) = nI a + 5 then _ else _) = _
        rw [if_neg (by decide), if_pos (by rw [show (5 : Int32) = nI 5 from rfl, nI_add])]
        rfl
      · have c2 : t_dg B n (a + k) = false := by simpa using c2
        refine ⟨(1, st), by rw [c2]; rfl, hst.2.2, fun c3 => by rw [c2] at c3; exact absurd c3 (by decide), fun _ => ⟨rfl, hst.1, hst.2.1⟩⟩) (fun n' j st hj hst => Or.inr ⟨ax_sI (ax_sI st 63 9 (nI (t_dv B a (j + 1)))) 63 6 (st.2.1 63 6 + 1), by
      show M_readsNumber_l10 (n' + 1) (nI a) st = M_readsNumber_l10 n' (nI a) _
      have hd := h1 j hj
      rw [M_readsNumber_l10, p_mdig hst.2.1 hB hn (by omega), hd, p_here hst.2.1 hn (by omega), t_chd hd]
      show (if (1 : Int32) = 0 then _ else if st.2.1 63 6 = nI a + 5 then _ else _) = _
      rw [if_neg (by decide), if_neg (by rw [hst.2.1.2.1, show (5 : Int32) = nI 5 from rfl, nI_add, z_eq (by omega) (by omega)]; omega)]
      show M_readsNumber_l10 n' (nI a) (ax_sI (ax_sI st 63 9 (10 * st.2.1 63 9 + nI (B (a + j)) - 48)) 63 6 (st.2.1 63 6 + 1)) = _
      rw [hst.1, t_acc (by have := t_dgT.mp hd; omega)]
      rfl, by
      have e0 := M_st (B := B) (n := n) (a := a + j) (s := ax_sI st 63 9 (nI (t_dv B a (j + 1)))) ⟨by rw [r_one _ _ (by omega)]; exact hst.2.1.1, by rw [r_one _ _ (by omega)]; exact hst.2.1.2.1, fun q => by rw [r_I (by omega)]; exact hst.2.1.2.2 q⟩
      rw [r_one 63 6 (by omega)] at e0
      refine ⟨?_, e0.1, N_tr hst.2.2 (N_tr (N_9 _ _) e0.2)⟩
      rw [r_one _ _ (by omega), r_Ie, r_u]⟩) 70000 0 (ax_sI s 63 9 0) (by omega) ⟨by rw [r_Ie, r_u]; rfl, ⟨by rw [r_one _ _ (by omega)]; exact h.1, by rw [r_one _ _ (by omega)]; exact h.2.1, fun q => by rw [r_I (by omega)]; exact h.2.2 q⟩, N_9 _ _⟩ (by omega)
  refine ⟨v, t, ?_, e2.1, e2.2.1, e2.2.2⟩
  have e1 : M_readsNumber_l10 70000 (nI a) (ax_sI s 63 9 0) = some (v, t) := e1
  rw [h.2.1, e1]
/-- letters -/
def l_lt (c x : Nat) : Prop := (c = 112 ∧ x = 0) ∨ (c = 118 ∧ x = 1) ∨ (c = 110 ∧ x = 2) ∨ (c = 115 ∧ x = 3) ∨ (c = 100 ∧ x = 4) ∨ (c = 116 ∧ x = 5)
theorem l_ltr (v : Int32) (s t : ax_S) : (XLa_isLetter v s = 0 ∧ M_factOf v t = -1) ∨ (XLa_isLetter v s = 1 ∧ ∃ c x, v = nI c ∧ l_lt c x ∧ M_factOf v t = nI x) := by
  unfold XLa_isLetter
  by_cases c1 : v = 112
  · subst c1; exact Or.inr ⟨rfl, 112, 0, rfl, by unfold l_lt; omega, rfl⟩
  by_cases c2 : v = 118
  · subst c2; exact Or.inr ⟨rfl, 118, 1, rfl, by unfold l_lt; omega, rfl⟩
  by_cases c3 : v = 110
  · subst c3; exact Or.inr ⟨rfl, 110, 2, rfl, by unfold l_lt; omega, rfl⟩
  by_cases c4 : v = 115
  · subst c4; exact Or.inr ⟨rfl, 115, 3, rfl, by unfold l_lt; omega, rfl⟩
  by_cases c5 : v = 100
  · subst c5; exact Or.inr ⟨rfl, 100, 4, rfl, by unfold l_lt; omega, rfl⟩
  by_cases c6 : v = 116
  · subst c6; exact Or.inr ⟨rfl, 116, 5, rfl, by unfold l_lt; omega, rfl⟩
  refine Or.inl ⟨by rw [if_neg c1, if_neg c2, if_neg c3, if_neg c4, if_neg c5, if_neg c6], ?_⟩
  unfold M_factOf
  rw [if_neg c5]
  simp only [if_neg c1, if_neg c2, if_neg c3, if_neg c4, if_neg c6, ite_self]
/-- what the reference does behind a factor -/
def l_fin (base : Int32) (r : Option ((ax_S) ⊕ (Int32 × ax_S))) : Option (Int32 × ax_S) := match r with
  | none => none
  | some (.inl s10) =>
    match M_hasOpenSum base s10 with
    | none => none
    | some v11 =>
      if v11 = 0 then (
        match M_closesSums (1 : Int32) s10 with
        | none => none
        | some s12 =>
          some ((1 : Int32), s12)) else
      some ((M_wrongAt (1 : Int32) (s10.2.1 63 6) s10).1, (M_wrongAt (1 : Int32) (s10.2.1 63 6) s10).2)
  | some (.inr r) => some r
def l_FN (base : Int32) (N : Nat) (s : ax_S) : Option (Int32 × ax_S) := l_fin base (M_readsSum_l14 N base s)
/-- a factor's end, read -/
def l_rs (s4 : ax_S) : Option (Int32 × ax_S) :=
    match M_isDigit s4 with
    | none => none
    | some v5 =>
      if v5 = 0 then (
        match M_here s4 with
        | none => none
        | some v6 =>
          if (M_factOf v6 s4) = (-1 : Int32) then (
            some ((M_wrongAt (1 : Int32) (s4.2.1 63 6) s4).1, (M_wrongAt (1 : Int32) (s4.2.1 63 6) s4).2)) else
          match M_notes (1 : Int32) (M_factOf v6 s4) s4 with
          | none => none
          | some s7 =>
            some ((1 : Int32), (ax_sI s7 63 6 ((s7.2.1 63 6) + (1 : Int32))))) else
      match M_readsNumber s4 with
      | none => none
      | some (v8, s9) =>
        if v8 = 0 then (
          some ((0 : Int32), s9)) else
        match M_notes (0 : Int32) (s9.2.1 63 9) s9 with
        | none => none
        | some s10 =>
          some ((1 : Int32), s10)
def l_rf (k : Nat) (s : ax_S) : Option (Int32 × ax_S) := match M_readsFactor_l0 k s with
  | none => none
  | some (.inl s4) => l_rs s4
  | some (.inr r) => some r
theorem l_rf_eq (s : ax_S) : M_readsFactor s = l_rf 70000 s := by
  unfold M_readsFactor l_rf l_rs
  rfl
def l_FF (k : Nat) (base : Int32) (N : Nat) (s : ax_S) : Option (Int32 × ax_S) := l_fin base (match l_rf k s with
  | none => none
  | some (v8, s9) =>
    if v8 = 0 then (
      some (.inr ((0 : Int32), s9))) else
    M_readsSum_l14 N base s9)
theorem l_rS (s : ax_S) : M_readsSum s = l_FF 70000 (s.2.1 63 12) 70000 s := by
  unfold M_readsSum l_FF
  rw [l_rf_eq]
  generalize l_rf 70000 s = o
  rcases o with _ | ⟨v, s2⟩
  · rfl
  · simp only []
    by_cases c : v = 0
    · rw [if_pos c, if_pos c]; rfl
    · rw [if_neg c, if_neg c]
      unfold l_fin
      generalize M_readsSum_l14 70000 (s.2.1 63 12) s2 = r
      rcases r with _ | r | r
      · rfl
      · rfl
      · rfl
/-- a factor that is no [ -/
theorem l_rs_ok {B : Nat → Nat} {n a cX cM w d : Nat} {sX sM : ax_S} (hB : ∀ k, B k < 256) (hn : n ≤ 240) (ha : a ≤ n) (rec : Nat → Int32 → Int32 → ax_S → Option ax_S) (x1 : Int32) (h91 : t_ch B n a ≠ 91) (hX : l_cX B n a cX sX) (hM : l_cM B n a cM w d sM) (kX : cX ≤ a) (kM : cM ≤ a) (w2 : Nat) :
    (∃ b V tX tM, a < b ∧ b ≤ n ∧ XLaRe_readFactor rec x1 sX = some tX ∧ l_rs sM = some (1, tM) ∧ l_cX B n b (cX + 1) tX ∧ l_cM B n b (cM + 1) w d tM ∧ l_oX tX cX 1 V 1 ∧ l_oM tM cM 1 V 1 ∧ l_gX cX sX tX ∧ l_gM cM w2 sM tM) ∨
    (∃ tX tM, XLaRe_readFactor rec x1 sX = some tX ∧ l_rs sM = some (0, tM) ∧ t_F tX tM ∧ l_K sX tX ∧ l_ok tX ∧ l_N sM tM) := by
  have kn : n ≤ 260 := by omega
  unfold l_rs
  rw [p_mdig hM.1 hB kn (by omega), p_here hM.1 kn (by omega)]
  by_cases dg : t_dg B n a = true
  · have d3 := t_dgT.mp dg
    have hgo : XLaRe_readFactor rec x1 sX = (match XTa_readNumber (5 : Int32) sX with
        | none => none
        | some (v4, s5) =>
          match XLa_add_44 (0 : Int32) v4 s5 with
          | none => none
          | some s6 => some s6) := by
      unfold XLaRe_readFactor
      rw [p_peek hX.1 kn (by omega)]
      simp only [if_neg h91]
      rw [t_chd dg, if_neg (by rw [q_48, z_lt (by omega) (by omega)]; omega), if_neg (by rw [show (57 : Int32) = nI 57 from rfl, z_lt (by omega) (by omega)]; omega)]
      rfl
    rw [hgo]
    simp only [if_pos dg]
    rw [if_neg (show ¬ (1 : Int32) = 0 by decide)]
    obtain ⟨k, hk, h1, h2⟩ := t_cnt B n 5 a
    have k0 : 0 < k := by
      rcases h2 with h2 | h2
      · omega
      · rcases Nat.eq_zero_or_pos k with rfl | c
        · rw [Nat.add_zero, dg] at h2; exact absurd h2 (by decide)
        · exact c
    have hak := t_end ha h1
    obtain ⟨x, tX, e1, e2, e3, e4, e5⟩ := p_num hX.1 hB kn ha 5 k (by omega) hk h1 h2
    obtain ⟨x', tX', f1, f2⟩ := a_num 5 (by omega) sX
    rw [e1] at f1
    obtain ⟨rfl, rfl⟩ : x = x' ∧ tX = tX' := by simpa using f1
    obtain ⟨y, tM, g1, g2, g3, g4⟩ := q_num hM.1 hB kn ha k hk h1 h2
    have e1 : XTa_readNumber 5 sX = some (x, tX) := e1
    rw [e1, g1]
    simp only []
    by_cases dd : t_dg B n (a + k) = true
    · obtain ⟨rfl, g5⟩ := g3 dd
      have o1 : l_ok tX := lok_K f2 (cX_ok hX (by omega))
      obtain ⟨u, u1, u2, u3⟩ := l_add 0 x tX o1
      refine Or.inr ⟨u, tM, by rw [u1], by rw [if_pos rfl], ⟨2, a + k, by omega, by omega, by omega, ?_, g5⟩, lK_tr (lK_of f2) u2, u3, lN_of g2⟩
      have e6 := e4 k0 dd
      rw [u2.1 (by rw [e6]; exact (t_fc_ne (by omega) (by omega) (by omega)).1)]
      exact e6
    · have dd : t_dg B n (a + k) = false := by simpa using dd
      obtain ⟨rfl, g5, g6⟩ := g4 dd
      obtain ⟨rfl, e6⟩ := e5 k0 dd
      have cX1 : l_cX B n (a + k) cX tX := ⟨e6, by rw [f2.2 _ _ (by omega)]; exact hX.2⟩
      have cM1 : l_cM B n (a + k) cM w d tM := ⟨g6, by rw [g2 _ _ (by omega)]; exact hM.2.1, by rw [g2 _ _ (by omega)]; exact hM.2.2.1, by rw [g2 _ _ (by omega)]; exact hM.2.2.2⟩
      obtain ⟨uX, i1, i2, i3, i4, i5⟩ := X_ad cX1 (by omega) 0 (nI (t_dv B a k))
      obtain ⟨uM, j1, j2, j3, j4⟩ := M_nt cM1 (by omega) 0 (t_dv B a k) w2
      have j1 : M_notes 0 (nI (t_dv B a k)) tM = some uM := j1
      have hv := t_dv5 hk (by omega) h1
      refine Or.inl ⟨a + k, fun _ => some (nI (t_dv B a k)), uX, uM, by omega, hak, by rw [i1], by rw [if_neg (by decide), g5, j1], i2, j2, ?_, l_sgM_num (by omega) j3, gX_tr (gX_of _ f2) i5 (Nat.le_refl _), gM_tr (gM_of _ _ g2) j4 (Nat.le_refl _) (Nat.le_refl _)⟩
      have := l_seg_num (F := uX.2.1 49) (G := uX.2.1 50) (i := cX) i3
      rw [i4] at this
      exact this
  · have dg : t_dg B n a = false := by simpa using dg
    have hgo : XLaRe_readFactor rec x1 sX = (if XLa_isLetter (t_ch B n a) sX = 0 then some (XTa_refuse 1 sX) else match XLa_add_44 (t_ch B n a) 0 sX with
        | none => none
        | some s2 => some (XTa_step s2)) := by
      unfold XLaRe_readFactor
      rw [p_peek hX.1 kn (by omega)]
      simp only [if_neg h91]
      by_cases c : a < n
      · have e : t_ch B n a = nI (B a) := by unfold t_ch; rw [if_pos c]
        have hb := hB a
        by_cases c1 : B a < 48
        · exact if_pos (by rw [e, q_48, z_lt (by omega) (by omega)]; exact c1)
        · rw [if_neg (by rw [e, q_48, z_lt (by omega) (by omega)]; exact c1)]
          refine if_pos ?_
          rw [e, show (57 : Int32) = nI 57 from rfl, z_lt (by omega) (by omega)]
          have c2 : ¬ (a < n ∧ 48 ≤ B a ∧ B a ≤ 57) := fun e => by rw [t_dgT.mpr e] at dg; exact absurd dg (by decide)
          omega
      · exact if_pos (by unfold t_ch; rw [if_neg c]; decide)
    rw [hgo]
    simp only [dg]
    rw [if_neg (show ¬ false = true by decide), if_pos rfl]
    rcases l_ltr (t_ch B n a) sX sM with ⟨l1, l2⟩ | ⟨l1, c, x, l2, l3, l4⟩
    · rw [l1, l2, if_pos rfl, if_pos rfl]
      obtain ⟨w1, w3, w4⟩ := M_wr 1 a sM
      refine Or.inr ⟨_, (M_wrongAt (nI 1) (nI a) sM).2, rfl, ?_, ⟨1, a, by omega, by omega, by omega, ?_, ?_⟩, lK_of (K_ref _ _ _), lok_K (K_ref _ _ _) (cX_ok hX (by omega)), ?_⟩
      · rw [hM.1.2.1]; rfl
      · unfold XTa_refuse; rw [hX.1.2.1]; exact X_rf hX.1 1 a
      · exact w3
      · exact lN_of w4
    · have ca : a < n := by
        unfold t_ch at l2
        by_cases e : a < n
        · exact e
        · rw [if_neg e] at l2
          exact absurd l2.symm (by rw [z_nne (by unfold l_lt at l3; omega)]; exact id)
      have hx : x < 6 := by unfold l_lt at l3; omega
      rw [l1, l4, if_neg (by decide), if_neg (by rw [z_nne (by omega)]; exact id)]
      obtain ⟨uX, i1, i2, i3, i4, i5⟩ := X_ad hX (by omega) (t_ch B n a) 0
      obtain ⟨uM, j1, j2, j3, j4⟩ := M_nt hM (by omega) 1 x w2
      have j1 : M_notes 1 (nI x) sM = some uM := j1
      obtain ⟨m1, m2⟩ := X_sp i2 (cX + 1)
      obtain ⟨o1, o2⟩ := M_sp j2 (cM + 1) w2
      rw [i1, j1]
      refine Or.inl ⟨a + 1, fun E => some (E x), _, _, by omega, by omega, rfl, rfl, m1, o1, ?_, ?_, gX_tr i5 m2 (by omega), gM_tr j4 o2 (by omega) (Nat.le_refl _)⟩
      · exact oX_cg (c := cX + 1) (l_seg_let (F := uX.2.1 49) (G := uX.2.1 50) (i := cX) (c := c) (x := x) (by rw [i3]; exact l2) l3) m2 (Nat.le_refl _)
      · exact oM_cg (c := cM + 1) (l_sgM_let hx j3) o2 (Nat.le_refl _)
