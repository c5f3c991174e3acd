/-! edits: a line about a pain -/
def t_P2 (s t : ax_S) : Prop := ∀ c j, ¬ (c = 1 ∧ (j = 3 ∨ j = 4 ∨ j = 5)) → ¬ (27 ≤ c ∧ c ≤ 32) → t.2.1 c j = s.2.1 c j
def t_Q2 (s t : ax_S) : Prop := ∀ c j, ¬ (c = 63 ∧ (j = 6 ∨ j = 8 ∨ j = 9 ∨ j = 28)) → ¬ (c = 64 ∧ j < 76) → t.2.1 c j = s.2.1 c j
def t_W (s t : ax_S) : Prop := ∀ p, p < 16 → s.2.1 32 p = t.2.1 64 (60 + p) ∧ ∃ m, m ≤ 99 ∧ t.2.1 64 (60 + p) = nI m
theorem K_P2 {s t : ax_S} (h : t_K s t) : t_P2 s t := fun c j e _ => h.2 c j e
theorem N_Q2 {s t : ax_S} (h : t_N s t) : t_Q2 s t := fun c j e _ => h c j (by omega)
theorem P2_tr {s t u : ax_S} (h : t_P2 s t) (h2 : t_P2 t u) : t_P2 s u := fun c j e f => by rw [h2 c j e f, h c j e f]
theorem Q2_tr {s t u : ax_S} (h : t_Q2 s t) (h2 : t_Q2 t u) : t_Q2 s u := fun c j e f => by rw [h2 c j e f, h c j e f]
theorem R_KN {s t s2 t2 : ax_S} (h : t_R s t) (k : ∀ c j, 27 ≤ c → c ≤ 31 → s2.2.1 c j = s.2.1 c j) (m : ∀ j, j < 60 → t2.2.1 64 j = t.2.1 64 j) : t_R s2 t2 := by
  intro i hi
  have := h i hi
  simp only [v_ok, vX, vM] at this ⊢
  simp (disch := omega) only [k, m]
  exact this
theorem W_KN {s t s2 t2 : ax_S} (h : t_W s t) (k : ∀ j, s2.2.1 32 j = s.2.1 32 j) (m : ∀ j, 60 ≤ j → j < 76 → t2.2.1 64 j = t.2.1 64 j) : t_W s2 t2 := by
  intro p hp
  rw [k, m _ (by omega) (by omega)]
  exact h p hp
def t_c (z : Int32) : Int32 := if (0 : Int32) < (if z < (99 : Int32) then z else (99 : Int32)) then (if z < (99 : Int32) then z else (99 : Int32)) else (0 : Int32)
theorem t_c_eq (z : Int32) (s t : ax_S) : M_max 0 (M_min 99 z s) t = t_c z ∧ ∃ m, m ≤ 99 ∧ t_c z = nI m := by
  have e0 : (0 : Int32).toInt = 0 := rfl
  have e9 : (99 : Int32).toInt = 99 := rfl
  have key : ∀ y : Int32, 0 ≤ y.toInt → y.toInt ≤ 99 → ∃ m, m ≤ 99 ∧ y = nI m := fun y h1 h2 => by
    rcases z_inX (x := y) (s := s) 0 99 (by omega) (by omega) with h | ⟨-, m, -, h3, h4⟩
    · unfold M_in at h
      rw [if_neg (by rw [show nI 0 = (0 : Int32) from rfl, Int32.lt_iff_toInt_lt, e0]; omega), if_neg (by rw [show nI 99 = (99 : Int32) from rfl, Int32.lt_iff_toInt_lt, e9]; omega)] at h
      exact absurd h (by decide)
    · exact ⟨m, h3, h4⟩
  unfold M_max M_min t_c
  by_cases h1 : z < 99
  · have h2 : z ≤ 99 := Int32.le_of_lt h1
    rw [if_pos h2]
    simp only [if_pos h1]
    have h1' := Int32.lt_iff_toInt_lt.mp h1
    rw [e9] at h1'
    by_cases h3 : 0 < z
    · rw [if_pos (Int32.le_of_lt h3), if_pos h3]
      have := Int32.lt_iff_toInt_lt.mp h3
      exact ⟨rfl, key z (by omega) (by omega)⟩
    · rw [if_neg h3]
      refine ⟨?_, 0, by omega, rfl⟩
      by_cases h4 : 0 ≤ z
      · rw [if_pos h4]; exact Int32.le_antisymm (Int32.not_lt.mp h3) h4
      · rw [if_neg h4]
  · simp only [if_neg h1]
    rw [if_pos (show (0 : Int32) < 99 by decide)]
    refine ⟨?_, 99, by omega, rfl⟩
    by_cases h2 : z ≤ 99
    · rw [if_pos h2]
      have : z = 99 := Int32.le_antisymm h2 (Int32.not_lt.mp h1)
      rw [this]; rfl
    · rw [if_neg h2]; rfl
theorem X_pof (p : Nat) (hp : p < 16) (s : ax_S) : XSt_painOf_25 (nI p) s = some (s.2.1 32 p) := by
  unfold XSt_painOf_25
  rcases z_per (nI p) s with ⟨-, h⟩ | ⟨-, h, -⟩
  · exact absurd h (by
      unfold X_isPerson
      rw [X_within_eq]
      unfold M_in
      rw [if_neg (by rw [show (0 : Int32) = nI 0 from rfl, z_lt (by omega) (by omega)]; omega), if_neg (by rw [q_15, z_lt (by omega) (by omega)]; omega)]
      decide)
  · rw [h]
    simp (disch := omega) only [z_10, z_cl, z_lt0, z_nle, or_self, if_false]
theorem X_stp (p : Nat) (hp : p < 16) (z : Int32) (s : ax_S) : XSt_setPain_25 (nI p) z s = some (ax_sI s 32 p (t_c z)) := by
  unfold XSt_setPain_25
  rcases z_per (nI p) s with ⟨-, h⟩ | ⟨-, h, -⟩
  · exact absurd h (by
      unfold X_isPerson
      rw [X_within_eq]
      unfold M_in
      rw [if_neg (by rw [show (0 : Int32) = nI 0 from rfl, z_lt (by omega) (by omega)]; omega), if_neg (by rw [q_15, z_lt (by omega) (by omega)]; omega)]
      decide)
  · rw [h]
    simp (disch := omega) only [z_10, z_cl, z_lt0, z_nle, or_self, if_false]
    rfl
/-- the pain is written on both sides -/
theorem t_setp {B : Nat → Nat} {n b p : Nat} (hp : p < 16) {s t : ax_S} (h : t_X B n b s) (g : t_M B n b t) (hR : t_R s t) (hW : t_W s t) (z : Int32) : t_X B n b (ax_sI s 32 p (t_c z)) ∧ t_M B n b (ax_sI t 64 (60 + p) (t_c z)) ∧ t_R (ax_sI s 32 p (t_c z)) (ax_sI t 64 (60 + p) (t_c z)) ∧ t_W (ax_sI s 32 p (t_c z)) (ax_sI t 64 (60 + p) (t_c z)) := by
  refine ⟨⟨by rw [r_I (by omega)]; exact h.1, by rw [r_I (by omega)]; exact h.2.1, by rw [r_I (by omega)]; exact h.2.2.1, fun q hq => by rw [r_I (by omega)]; exact h.2.2.2 q hq⟩, ⟨by rw [r_I (by omega)]; exact g.1, by rw [r_I (by omega)]; exact g.2.1, fun q => by rw [r_I (by omega)]; exact g.2.2 q⟩, R_KN hR (fun c j _ _ => by rw [r_I (by omega)]) (fun j hj => r_one _ _ (by omega)), fun q hq => ?_⟩
  by_cases e : q = p
  · subst e
    rw [r_Ie, r_u, r_Ie, r_u]
    exact ⟨rfl, (t_c_eq z s t).2⟩
  · rw [r_one 32 q (by omega), r_one 64 (60 + q) (by omega)]
    exact hW q hq
theorem t_epain {B : Nat → Nat} {n a p : Nat} {sX sM : ax_S} (hp : p < 16) (h : t_X B n (a + 1) sX) (g : t_M B n a sM) (hR : t_R sX sM) (hW : t_W sX sM) (hB : ∀ k, B k < 256) (hn : n ≤ 260) (ha : a < n) :
    ∃ tX y tM, XEdRe_readPainEdit (nI p) sX = some tX ∧ M_readsPain (nI p) sM = some (y, tM) ∧ t_P2 sX tX ∧ t_Q2 sM tM ∧ ((y = 1 ∧ ∃ b, a < b ∧ b ≤ n ∧ t_X B n b tX ∧ t_M B n b tM ∧ tM.2.1 63 28 = sM.2.1 63 28 ∧ t_R tX tM ∧ t_W tX tM) ∨ (y = 0 ∧ t_F tX tM)) := by
  unfold XEdRe_readPainEdit M_readsPain
  rw [p_peek h hn (by omega), p_here (M_st g).1 hn (by omega)]
  have g2 := M_st (M_st g).1
  have gN := N_tr (M_st g).2 g2.2
  rw [show (ax_sI sM 63 6 (sM.2.1 63 6 + 1)).2.1 63 6 = sM.2.1 63 6 + 1 by rw [r_Ie, r_u]] at g2 gN
  by_cases c : t_ch B n (a + 1) = 43 ∨ t_ch B n (a + 1) = 45
  · have ha1 : a + 1 < n := by
      by_cases e : a + 1 < n
      · exact e
      · unfold t_ch at c; rw [if_neg e] at c
        rcases c with c | c
        · exact absurd c (by decide)
        · exact absurd c (by decide)
    obtain ⟨x, s3, y, t3, e1, e2, k1, n1, e3, e4⟩ := t_amount (X_st h).1 g2.1 hB hn (by omega)
    have kk := K_tr (X_st h).2 k1
    have nn := N_tr gN n1
    have hR3 : t_R s3 t3 := R_KN hR (fun c j _ _ => kk.2 c j (by omega)) (fun j _ => nn 64 j (by omega))
    have hW3 : t_W s3 t3 := W_KN hW (fun j => kk.2 32 j (by omega)) (fun j _ _ => nn 64 j (by omega))
    have h28 : t3.2.1 63 28 = sM.2.1 63 28 := nn _ _ (by omega)
    have fin : ∀ z : Int32, ∀ y, y = 1 → (∃ v b, v ≤ 99 ∧ a + 2 < b ∧ b ≤ n ∧ x = nI v ∧ t3.2.1 63 9 = nI v ∧ t_X B n b s3 ∧ t_M B n b t3) → ∃ b, a < b ∧ b ≤ n ∧ t_X B n b (ax_sI s3 32 p (t_c z)) ∧ t_M B n b (ax_sI t3 64 (60 + p) (t_c z)) ∧ (ax_sI t3 64 (60 + p) (t_c z)).2.1 63 28 = sM.2.1 63 28 ∧ t_R (ax_sI s3 32 p (t_c z)) (ax_sI t3 64 (60 + p) (t_c z)) ∧ t_W (ax_sI s3 32 p (t_c z)) (ax_sI t3 64 (60 + p) (t_c z)) := fun z y _ ⟨v, b, f1, f2, f3, f4, f5, f6, f7⟩ => by
      obtain ⟨i1, i2, i3, i4⟩ := t_setp hp f6 f7 hR3 hW3 z
      exact ⟨b, by omega, f3, i1, i2, by rw [r_I (by omega)]; exact h28, i3, i4⟩
    have frX : ∀ z, t_P2 sX (ax_sI s3 32 p z) := fun z => P2_tr (K_P2 kk) fun c j _ d => by rw [r_I (by omega)]
    have frM : ∀ z, t_Q2 sM (ax_sI t3 64 (60 + p) z) := fun z => Q2_tr (N_Q2 nn) fun c j _ d => r_one c j (by omega)
    have fl : ∀ z, t_F s3 t3 → t_F (ax_sI s3 32 p z) t3 := fun z ⟨q, r, i1, i2, i3, i4, i5⟩ => ⟨q, r, i1, i2, i3, by rw [r_I (by omega)]; exact i4, i5⟩
    rcases c with c | c
    all_goals
      simp only [c, if_true, show ((45 : Int32) = 43) = False from eq_false (by decide), if_false, e1, e2, X_pof p hp, X_stp p hp]
      rcases e4 with ⟨rfl, e5⟩ | ⟨rfl, hF⟩
      · obtain ⟨v, b, f1, f2, f3, rfl, f5, f6, f7⟩ := e5
        simp (disch := omega) only [z_10, if_false, q_60, nI_add, z_cl, z_lt0, z_nle, or_self, (t_c_eq _ _ _).1, XEdRe_readPainEdit_j61, M_readsPain_j79, XEdRe_readPainEdit_j61_1, M_readsPain_j79_1, if_true, show ((45 : Int32) = 43) = False from eq_false (by decide), f5, (hW3 p hp).1]
        exact ⟨_, 1, _, rfl, rfl, frX _, frM _, Or.inl ⟨rfl, fin _ 1 rfl ⟨v, b, f1, f2, f3, rfl, f5, f6, f7⟩⟩⟩
      · simp only [if_true]
        exact ⟨_, 0, t3, rfl, rfl, frX _, N_Q2 nn, Or.inr ⟨rfl, fl _ hF⟩⟩
  · have c1 : ¬ t_ch B n (a + 1) = 43 := fun e => c (Or.inl e)
    have c2 : ¬ t_ch B n (a + 1) = 45 := fun e => c (Or.inr e)
    obtain ⟨w1, w2, w3⟩ := M_wr 1 (a + 1) (ax_sI sM 63 6 (sM.2.1 63 6 + 1))
    refine ⟨XTa_refuseAt (nI 1) (nI (a + 1)) sX, 0, (M_wrongAt (nI 1) (nI (a + 1)) (ax_sI sM 63 6 (sM.2.1 63 6 + 1))).2, ?_, ?_, K_P2 (K_ref _ _ _), N_Q2 (N_tr (M_st g).2 w3), Or.inr ⟨rfl, 1, a + 1, by omega, by omega, by omega, X_rf h _ _, w2⟩⟩
    · simp only [c1, c2, if_false]
      unfold XTa_refuse
      rw [h.2.1]; rfl
    · simp only [c1, c2, if_false]
      rw [g.2.1, z_1]; rfl
