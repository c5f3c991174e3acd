/-! law: a sum's loop, both readers -/
theorem hd_gX {p cX cM w D cx cm w1 ub c : Nat} {sX tX sM : ax_S} (h : l_HD p cX cM w D sX sM cx cm w1 ub) (g : l_gX c sX tX) (e : cx ≤ c) : l_HD p cX cM w D tX sM cx cm w1 ub := by
  rcases h with ⟨rfl, mT, T, rfl, h2, h3, h4⟩ | ⟨mA, mT, A, T, kp, h1, rfl, h2, h3, h4, h5, h6, h7⟩
  · exact Or.inl ⟨rfl, mT, T, rfl, h2, oX_cg h3 g e, h4⟩
  · exact Or.inr ⟨mA, mT, A, T, kp, h1, rfl, h2, oX_cg h3 g (by omega), oX_cg h4 g e, h5, h6, h7⟩
theorem kd_op {kd sg : Nat} (h : l_kd kd sg) : l_isop sg := by unfold l_kd at h; unfold l_isop; omega
theorem l18_1 (rec : Nat → Int32 → Int32 → ax_S → Option ax_S) (x1 p v : Int32) (n i : Nat) (s : ax_S) (hi : i < 240) (hj : XLaRe_joinsNumbers v s = 1) (hy : ∀ x1 x2 x4 s, XLaRe_readSum_j43 x1 x2 v x4 v s = 1) : XLaRe_readSum_l18 rec (n + 1) x1 p v (nI i) s = (match l_sad p (XTa_step s) with
    | none => none
    | some s5 => match rec 4 x1 0 s5 with
      | none => none
      | some s6 => match XTa_peek s6 with
        | none => none
        | some v10 => XLaRe_readSum_l18 rec n x1 v v10 (nI (i + 1)) s6) := by
  rw [XLaRe_readSum_l18, if_neg (by rw [q_240, z_le (by omega) (by omega)]; omega), hj, if_neg (by decide), hy, z_1]
  unfold XLaRe_readSum_j61 XLaRe_readSum_j84 l_sad
  simp only [z_10, if_false]
  rfl
theorem l18_0 (rec : Nat → Int32 → Int32 → ax_S → Option ax_S) (x1 p v : Int32) (n i : Nat) (s : ax_S) (hi : i < 240) (hj : XLaRe_joinsNumbers v s = 1) (hy : ∀ x1 x2 x4 s, XLaRe_readSum_j43 x1 x2 v x4 v s = 0) : XLaRe_readSum_l18 rec (n + 1) x1 p v (nI i) s = (match rec 4 x1 0 (XTa_step s) with
      | none => none
      | some s6 => match XLa_add_44 v 0 s6 with
        | none => none
        | some s7 => match XTa_peek s7 with
          | none => none
          | some v10 => XLaRe_readSum_l18 rec n x1 p v10 (nI (i + 1)) s7) := by
  rw [XLaRe_readSum_l18, if_neg (by rw [q_240, z_le (by omega) (by omega)]; omega), hj, if_neg (by decide), hy, z_1]
  unfold XLaRe_readSum_j61 XLaRe_readSum_j84
  simp only [if_true]
  cases rec 4 x1 0 (XTa_step s) with
  | none => rfl
  | some s6 =>
    simp only []
    cases XLa_add_44 v 0 s6 with
    | none => rfl
    | some s7 => rfl
theorem l18_e (rec : Nat → Int32 → Int32 → ax_S → Option ax_S) (x1 p v : Int32) (n i : Nat) (s : ax_S) (hj : XLaRe_joinsNumbers v s = 0) : XLaRe_readSum_l18 rec (n + 1) x1 p v (nI i) s = some (p, s) := by
  rw [XLaRe_readSum_l18]
  by_cases c : 240 ≤ nI i
  · rw [if_pos c]
  · rw [if_neg c, hj, if_pos rfl]
/-- the reference, at a sign -/
theorem m14_s {B : Nat → Nat} {n b c w d kd : Nat} {s u : ax_S} {c0 w0 : Nat} (hs : l_cM B n b c w d s) (hn : n ≤ 260) (hb : b ≤ n) (hv : ∀ t, M_sumSign (t_ch B n b) t = nI kd) (hk : kd ≤ 6) (x : Int32) (hx : x = if kd ≤ 3 then 1 else 0) (hc : M_closesSums x s = some u) (hu : l_cM B n b c0 w0 d u) (hw : w0 < 260) (c2 : Nat) (N : Nat) (base : Int32) :
    ∃ t, l_FN base (N + 1) s = l_FF 70000 base N t ∧ l_cM B n (b + 1) c0 (w0 + 1) d t ∧ t.2.1 69 w0 = l_cd kd 0 ∧ l_gM c2 w0 u t := by
  obtain ⟨t, a1, a2, a3, a4⟩ := M_pu hu hw (l_cd kd 0) c2
  obtain ⟨b1, b2⟩ := M_sp a2 c2 w0
  refine ⟨_, ?_, b1, by rw [r_I (by omega)]; exact a3, gM_tr a4 b2 (Nat.le_refl _) (Nat.le_refl _)⟩
  have e1 : ¬ nI kd = -1 := by rw [z_nne (by omega)]; exact id
  have e2 : M_readsSum_j30 base (nI kd) (nI kd) s = x := by
    rw [hx]
    unfold M_readsSum_j30
    by_cases h : kd ≤ 3
    · rw [if_pos h, if_neg (by rw [q_4, z_le (by omega) (by omega)]; omega)]
    · rw [if_neg h, if_pos (by rw [q_4, z_le (by omega) (by omega)]; omega)]
  have e3 : (1048576 : Int32) * nI kd = l_cd kd 0 := by rw [q_1048576, pk_mul]; rfl
  have e4 : t.2.1 63 6 = u.2.1 63 6 := by rw [a2.1.2.1, hu.1.2.1]
  unfold l_FN l_FF
  rw [M_readsSum_l14, p_here hs.1 (by omega) (by omega)]
  simp only [hv]
  rw [if_neg e1, e2, hc]
  simp only [e3]
  rw [if_neg (by rw [hu.2.2.1]; exact l_in (k := w0) (N := 260) (by omega) (by omega)), a1, ← e4, l_rf_eq]
  rfl
theorem ch_lt {B : Nat → Nat} {n a v : Nat} (h : t_ch B n a = nI v) (hv : v < 1000) : a < n := by
  unfold t_ch at h
  by_cases e : a < n
  · exact e
  · rw [if_neg e] at h
    exact absurd h.symm (by rw [z_nne (by omega)]; exact id)
theorem l_sumL {B : Nat → Nat} {n : Nat} (hB : ∀ k, B k < 256) (hn : n ≤ 240) (rec : Nat → Int32 → Int32 → ax_S → Option ax_S) (d D : Nat) (hd : d ≤ 6) (hD : 1 ≤ D) (hla : ∀ s, l_ok s → l_an (rec 4 (nI d) 0 s) s) (hf : l_FACT B n (fun s => rec 4 (nI d) 0 s) d D) (a cX cM w base : Nat) (hcX : cX ≤ a) (hcM : cM ≤ a) (hw : w ≤ a) (hbw : base ≤ w) :
    ∀ g N sX sM b i p n' cx cm w1, a < b → b ≤ n → i ≤ b → n - b < g → n - b < N → 240 - i < n' → l_lo sM w → l_cX B n b cx sX → l_cM B n b cm w1 d sM → l_HD p cX cM w D sX sM cx cm w1 (b - a) →
    (∃ b' m V tX tM uM N' w' c', b ≤ b' ∧ b' ≤ n ∧ m ≤ b' - a ∧ n - b' < N' ∧ l_sen (XLaRe_readSum_l18 rec n' (nI d) (nI p) (t_ch B n b) (nI i) sX) = some tX ∧ l_FN (nI base) N sM = l_FN (nI base) N' tM ∧ l_cX B n b' (cX + m) tX ∧ l_oX tX cX m V (D + 2) ∧ l_gX cX sX tX ∧
      l_cM B n b' c' w' d tM ∧ w ≤ w' ∧ w' ≤ w + 2 ∧ (∀ q, w ≤ q → q < w' → ∃ j, j ≤ 13 ∧ tM.2.1 69 q = l_cd j 0) ∧ l_gM cM w sM tM ∧
      M_closesSums 1 tM = some uM ∧ l_cM B n b' (cM + m) w d uM ∧ l_oM uM cM m V (D + 2) ∧ l_gM cM w tM uM ∧ l_sg0 (t_ch B n b')) ∨
    (∃ tX tM, l_sen (XLaRe_readSum_l18 rec n' (nI d) (nI p) (t_ch B n b) (nI i) sX) = some tX ∧ l_FN (nI base) N sM = some (0, tM) ∧ t_F tX tM ∧ l_K sX tX ∧ l_ok tX ∧ l_N sM tM) := by
  intro g
  induction g with
  | zero => intro N sX sM b i p n' cx cm w1 h1 h2 h3 h4; omega
  | succ g ih =>
    intro N sX sM b i p n' cx cm w1 hab hbn hib hg hN hn' hl hX hM hH
    obtain ⟨N1, rfl⟩ : ∃ x, N = x + 1 := ⟨N - 1, by omega⟩
    obtain ⟨n1, rfl⟩ : ∃ x, n' = x + 1 := ⟨n' - 1, by omega⟩
    have cx240 : cx ≤ cX + (b - a) := by
      rcases hH with ⟨-, mT, T, e1, e2, -⟩ | ⟨mA, mT, A, T, kp, -, e1, e2, -⟩ <;> omega
    rcases l_sgs (t_ch B n b) with ⟨z1, z2⟩ | ⟨sg, kd, z1, z2, z3, z4, z5, z6, z7, z8⟩
    · obtain ⟨m, V, uX, uM, e1, e2, e3, e4, e5, e6, e7, e8, e9⟩ := hd_cl hX hM hH hl hD (by omega) (by omega) (by omega)
      obtain ⟨w2, w3, w4⟩ := hd_w hH
      exact Or.inl ⟨b, m, V, uX, sM, uM, N1 + 1, w1, cm, by omega, hbn, e1, by omega, by rw [l18_e _ _ _ _ _ _ _ (z2 sX).1]; exact e2, rfl, e3, e4, e5, hM, w2, w3, w4, gM_refl _ _ _, e6, e7, e8, e9, z1⟩
    · have bn : b < n := ch_lt z1 (by omega)
      obtain ⟨st1, st2⟩ := X_sp hX cx
      by_cases k3 : kd ≤ 3
      · -- + -
        have hH1 := hd_gX hH st2 (Nat.le_refl _)
        obtain ⟨m, V, uX, uM, e1, e2, e3, e4, e5, e6, e7, e8, e9⟩ := hd_cl st1 hM hH1 hl hD (by omega) (by omega) (by omega)
        have g9 : l_gX cX sX uX := gX_tr (gX_of cX (l_step sX)) e5 (Nat.le_refl _)
        obtain ⟨t, t1, t2, t3, t4⟩ := m14_s hM (by omega) hbn (fun t => (z7 t).2) (by omega) 1 (by rw [if_pos k3]) e6 e7 (by omega) (cM + m) N1 (nI base)
        have y1 : ∀ x1 x2 x4 s, XLaRe_readSum_j43 x1 x2 (t_ch B n b) x4 (t_ch B n b) s = 1 := fun x1 x2 x4 s => by rw [z8, if_pos k3]
        have go := l18_1 rec (nI d) (nI p) (t_ch B n b) n1 i sX (by omega) (z7 sX).1 y1
        rw [e2] at go
        simp only [] at go
        rw [go, t1]
        have hkp : (sg = 43 ∧ kd = 2) ∨ (sg = 45 ∧ kd = 3) := by unfold l_kd at z2; omega
        rcases hf uX t (b + 1) (cX + m) (cM + m) (w + 1) base N1 70000 (by omega) (by omega) (by omega) (by omega) (by omega) (by omega) (by omega) e3 t2 with ⟨b2, mF, F, tX, tM, N2, f1, f2, f3, f4, f5, f6, f7, f8, f9, f10, f11, f12⟩ | ⟨tX, tM, f1, f2, f3, f4, f5, f6⟩
        · have f5 : rec 4 (nI d) 0 uX = some tX := f5
          rw [f5, f6]
          simp only [p_peek f7.1 (show n ≤ 260 by omega) (show b2 ≤ 300 by omega)]
          have gm1 : l_gM cM w sM tM := gM_tr e9 (gM_tr t4 f12 (Nat.le_refl _) (by omega)) (by omega) (Nat.le_refl _)
          have hH2 : l_HD sg cX cM w D tX tM (cX + m + mF) (cM + m + mF) (w + 1) (b2 - a) := Or.inr ⟨m, mF, V, F, kd, hkp, rfl, by omega, oX_cg e4 f11 (Nat.le_refl _), oX_le f9 (by omega), oM_cg (oM_cg e8 t4 (Nat.le_refl _)) f12 (Nat.le_refl _), by rw [f12.2.2 w (by omega)]; exact t3, Or.inl ⟨rfl, rfl, oM_le f10 (by omega)⟩⟩
          rw [z1]
          rcases ih N2 tX tM b2 (i + 1) sg n1 (cX + m + mF) (cM + m + mF) (w + 1) (by omega) f2 (by omega) (by omega) f4 (by omega) (lo_g hl gm1 (Nat.le_refl _)) f7 f8 hH2 with ⟨b', m', V', tX', tM', uM', N', w', c', i1, i2, i3, i4, i5, i6, i7, i8, i9, i10, i11, i12, i13, i14, i15⟩ | ⟨tX', tM', i1, i2, i3, i4, i5, i6⟩
          · exact Or.inl ⟨b', m', V', tX', tM', uM', N', w', c', by omega, i2, i3, i4, i5, i6, i7, i8, gX_tr (gX_tr g9 f11 (by omega)) i9 (Nat.le_refl _), i10, i11, i12, i13, gM_tr gm1 i14 (Nat.le_refl _) (Nat.le_refl _), i15⟩
          · exact Or.inr ⟨tX', tM', i1, i2, i3, lK_tr g9.1 (lK_tr f11.1 i4), i5, lN_tr gm1.1 i6⟩
        · have f1 : rec 4 (nI d) 0 uX = some tX := f1
          rw [f1, f2]
          obtain ⟨v10, h10⟩ := a_peek tX
          simp only [h10]
          obtain ⟨q, t5, j1, j2, j3⟩ := la_sumL rec (nI d) hla n1 (t_ch B n b) v10 (i + 1) tX (by omega) (by omega) f5
          rw [j1]
          obtain ⟨t6, k1, k2, k4⟩ := la_sen q t5 j3
          refine Or.inr ⟨t6, tM, k1, rfl, ?_, lK_tr g9.1 (lK_tr f4 (lK_tr j2 k2)), k4, lN_tr e9.1 (lN_tr t4.1 f6)⟩
          obtain ⟨q1, q2, q3, q4, q5, q6, q7⟩ := f3
          have ne := (t_fc_ne q3 q4 q5).1
          exact ⟨q1, q2, q3, q4, q5, by rw [(lK_tr j2 k2).1 (by rw [q6]; exact ne)]; exact q6, q7⟩
      · -- * / %
        obtain ⟨uM, j, w0, mT, T, e1, e2, e3, e4, e5, e6, e7, e8, e9⟩ := hd_c0 hM hH hl hD (by omega) (by omega)
        obtain ⟨t, t1, t2, t3, t4⟩ := m14_s hM (by omega) hbn (fun t => (z7 t).2) (by omega) 0 (by rw [if_neg k3]) e1 e2 (by omega) (j + mT) N1 (nI base)
        have y1 : ∀ x1 x2 x4 s, XLaRe_readSum_j43 x1 x2 (t_ch B n b) x4 (t_ch B n b) s = 0 := fun x1 x2 x4 s => by rw [z8, if_neg k3]
        have go := l18_0 rec (nI d) (nI p) (t_ch B n b) n1 i sX (by omega) (z7 sX).1 y1
        rw [go, t1]
        have hop : l_isop sg := kd_op z2
        rcases hf (XTa_step sX) t (b + 1) cx (j + mT) (w0 + 1) base N1 70000 (by omega) (by omega) (by omega) (by omega) (by omega) (by omega) (by omega) st1 t2 with ⟨b2, mF, F, tX, tM, N2, f1, f2, f3, f4, f5, f6, f7, f8, f9, f10, f11, f12⟩ | ⟨tX, tM, f1, f2, f3, f4, f5, f6⟩
        · have f5 : rec 4 (nI d) 0 (XTa_step sX) = some tX := f5
          rw [f5, f6]
          obtain ⟨vX, a1, a2, a3, a4, a5⟩ := X_ad f7 (by omega) (t_ch B n b) 0
          simp only [a1, p_peek a2.1 (show n ≤ 260 by omega) (show b2 ≤ 300 by omega)]
          have gx1 : l_gX cx sX vX := gX_tr st2 (gX_tr f11 a5 (by omega)) (Nat.le_refl _)
          have gm2 : l_gM (j + mT) w0 uM tM := gM_tr t4 f12 (Nat.le_refl _) (by omega)
          have gm1 : l_gM cM w sM tM := gM_tr e3 gm2 (by omega) (by omega)
          have t69 : tM.2.1 69 w0 = l_cd kd 0 := by rw [f12.2.2 w0 (by omega)]; exact t3
          have mT2 : l_mT tM j w0 (j + mT + mF) (w0 + 1) (mT + mF + 1) (fun E => l_join sg (T E) (F E)) D := Or.inr ⟨mT, mF, T, F, kd, sg, rfl, rfl, rfl, oM_cg e8 gm2 (Nat.le_refl _), f10, t69, by omega, by omega, z2, rfl⟩
          have cd : vX.2.1 49 (cx + mF) = nI sg := by rw [a3, z1]
          have gXc : cX ≤ cx := by
            rcases e9 with ⟨-, -, -, e, -⟩ | ⟨mA, A, kp, -, -, -, e, -⟩ <;> omega
          have hH2 : l_HD p cX cM w D vX tM (cx + mF + 1) (j + mT + mF) (w0 + 1) (b2 - a) := by
            rcases e9 with ⟨rfl, rfl, rfl, rfl, h5, h6⟩ | ⟨mA, A, kp, h1, rfl, rfl, rfl, h5, h6, h7, h8, h9⟩
            · exact Or.inl ⟨rfl, mT + mF + 1, _, by omega, by omega, oX_le (l_seg_op (oX_cg h6 gx1 (Nat.le_refl _)) (oX_cg f9 a5 (Nat.le_refl _)) cd hop) (by omega), mT2⟩
            · exact Or.inr ⟨mA, mT + mF + 1, A, _, kp, h1, by omega, by omega, oX_cg h6 gx1 (by omega), oX_le (l_seg_op (oX_cg h7 gx1 (Nat.le_refl _)) (oX_cg f9 a5 (Nat.le_refl _)) cd hop) (by omega), oM_cg h8 gm2 (by omega), by rw [gm2.2.2 w (by omega)]; exact h9, mT2⟩
          rcases ih N2 vX tM b2 (i + 1) p n1 (cx + mF + 1) (j + mT + mF) (w0 + 1) (by omega) f2 (by omega) (by omega) f4 (by omega) (lo_g hl gm1 (Nat.le_refl _)) a2 f8 hH2 with ⟨b', m', V', tX', tM', uM', N', w', c', i1, i2, i3, i4, i5, i6, i7, i8, i9, i10, i11, i12, i13, i14, i15⟩ | ⟨tX', tM', i1, i2, i3, i4, i5, i6⟩
          · exact Or.inl ⟨b', m', V', tX', tM', uM', N', w', c', by omega, i2, i3, i4, i5, i6, i7, i8, gX_tr (gX_le gx1 gXc) i9 (Nat.le_refl _), i10, i11, i12, i13, gM_tr gm1 i14 (Nat.le_refl _) (Nat.le_refl _), i15⟩
          · exact Or.inr ⟨tX', tM', i1, i2, i3, lK_tr gx1.1 i4, i5, lN_tr gm1.1 i6⟩
        · have f1 : rec 4 (nI d) 0 (XTa_step sX) = some tX := f1
          rw [f1, f2]
          obtain ⟨v, v1, v2, v3⟩ := l_add (t_ch B n b) 0 tX f5
          obtain ⟨v10, h10⟩ := a_peek v
          simp only [v1, h10]
          obtain ⟨q, t5, j1, j2, j3⟩ := la_sumL rec (nI d) hla n1 (nI p) v10 (i + 1) v (by omega) (by omega) v3
          rw [j1]
          obtain ⟨t6, k1, k2, k4⟩ := la_sen q t5 j3
          refine Or.inr ⟨t6, tM, k1, rfl, ?_, lK_tr st2.1 (lK_tr f4 (lK_tr v2 (lK_tr j2 k2))), k4, lN_tr e3.1 (lN_tr t4.1 f6)⟩
          obtain ⟨q1, q2, q3, q4, q5, q6, q7⟩ := f3
          have ne := (t_fc_ne q3 q4 q5).1
          exact ⟨q1, q2, q3, q4, q5, by rw [(lK_tr v2 (lK_tr j2 k2)).1 (by rw [q6]; exact ne)]; exact q6, q7⟩
/-- a sum -/
theorem l_sumT {B : Nat → Nat} {n : Nat} (hB : ∀ k, B k < 256) (hn : n ≤ 240) (rec : Nat → Int32 → Int32 → ax_S → Option ax_S) (d D : Nat) (hd : d ≤ 6) (hD : 1 ≤ D) (hla : ∀ s, l_ok s → l_an (rec 4 (nI d) 0 s) s) (hf : l_FACT B n (fun s => rec 4 (nI d) 0 s) d D) : l_SUM B n (fun s => XLaRe_readSum rec (nI d) s) d (D + 2) := by
  intro sX sM a cX cM w base N k ha hcX hcM hw hbw hN hk hl hX hM
  simp only [l_sumE]
  rcases hf sX sM a cX cM w base N k ha hcX hcM hw hbw hN hk hX hM with ⟨b, m, V, tX, tM, N', f1, f2, f3, f4, f5, f6, f7, f8, f9, f10, f11, f12⟩ | ⟨tX, tM, f1, f2, f3, f4, f5, f6⟩
  · have f5 : rec 4 (nI d) 0 sX = some tX := f5
    rw [f5, f6]
    simp only [p_peek f7.1 (show n ≤ 260 by omega) (show b ≤ 300 by omega)]
    have hH : l_HD 0 cX cM w D tX tM (cX + m) (cM + m) w (b - a) := Or.inl ⟨rfl, m, V, rfl, f3, oX_le f9 (by omega), Or.inl ⟨rfl, rfl, oM_le f10 (by omega)⟩⟩
    rcases l_sumL hB hn rec d D hd hD hla hf a cX cM w base hcX hcM hw hbw (n - b + 1) N' tX tM b 0 0 70000 (cX + m) (cM + m) w f1 f2 (by omega) (by omega) f4 (by omega) (lo_g hl f12 (Nat.le_refl _)) f7 f8 hH with ⟨b', m', V', tX', tM', uM', N', w', c', i1, i2, i3, i4, i5, i6, i7, i8, i9, i10, i11, i12, i13, i14, i15⟩ | ⟨tX', tM', i1, i2, i3, i4, i5, i6⟩
    · exact Or.inl ⟨b', m', V', tX', tM', uM', N', w', c', by omega, i2, i3, i4, i5, i6, i7, i8, gX_tr f11 i9 (Nat.le_refl _), i10, i11, i12, i13, gM_tr f12 i14 (Nat.le_refl _) (Nat.le_refl _), i15⟩
    · exact Or.inr ⟨tX', tM', i1, i2, i3, lK_tr f11.1 i4, i5, lN_tr f12.1 i6⟩
  · have f1 : rec 4 (nI d) 0 sX = some tX := f1
    rw [f1, f2]
    obtain ⟨v10, h10⟩ := a_peek tX
    simp only [h10]
    obtain ⟨q, t5, j1, j2, j3⟩ := la_sumL rec (nI d) hla 70000 0 v10 0 tX (by omega) (by omega) f5
    have j1 : XLaRe_readSum_l18 rec 70000 (nI d) 0 v10 0 tX = some (q, t5) := j1
    rw [j1]
    obtain ⟨t6, k1, k2, k4⟩ := la_sen q t5 j3
    refine Or.inr ⟨t6, tM, k1, rfl, ?_, lK_tr f4 (lK_tr j2 k2), k4, f6⟩
    obtain ⟨q1, q2, q3, q4, q5, q6, q7⟩ := f3
    have ne := (t_fc_ne q3 q4 q5).1
    exact ⟨q1, q2, q3, q4, q5, by rw [(lK_tr j2 k2).1 (by rw [q6]; exact ne)]; exact q6, q7⟩
/-- factors and sums of the class's recursion -/
theorem l_recS {B : Nat → Nat} {n : Nat} (hB : ∀ k, B k < 256) (hn : n ≤ 240) : ∀ m d, d ≤ 6 → (14 - 2 * d ≤ m → l_SUM B n (fun s => XLaRe_rec m 3 (nI d) 0 s) d (15 - 2 * d)) ∧ (13 - 2 * d ≤ m → l_FACT B n (fun s => XLaRe_rec m 4 (nI d) 0 s) d (13 - 2 * d)) := by
  intro m
  induction m with
  | zero => intro d hd; exact ⟨fun h => by omega, fun h => by omega⟩
  | succ m ih =>
    intro d hd
    refine ⟨fun h => ?_, fun h => ?_⟩
    · have := l_sumT hB hn (XLaRe_rec m) d (13 - 2 * d) hd (by omega) (fun s o => (la_rec m d hd).2.2.2.2 (by omega) 0 s o) ((ih d hd).2 (by omega))
      rw [show 13 - 2 * d + 2 = 15 - 2 * d by omega] at this
      exact this
    · exact l_fact hB hn (XLaRe_rec m) d (13 - 2 * d) hd (by omega) fun h6 => by
        have := (ih (d + 1) (by omega)).1 (by omega)
        rw [show 15 - 2 * (d + 1) = 13 - 2 * d by omega] at this
        exact this
