/-! law: a condition's loop, both readers -/
theorem la_condL (rec : Nat → Int32 → Int32 → ax_S → Option ax_S) (x1 : Int32) (h : ∀ s, l_ok s → l_an (rec 1 x1 0 s) s) (n : Nat) (p x3 : Int32) (k : Nat) (s1 : ax_S) (hk : k ≤ 240) (hn : 240 - k < n) (o : l_ok s1) : ∃ q t, XLaRe_readCondition_l18 rec n x1 p x3 (nI k) s1 = some (q, t) ∧ l_K s1 t ∧ l_ok t := by
  have j48 : ∀ p x3 x4 y u, l_ok u → l_an (XLaRe_readCondition_j48 x1 p x3 x4 y u) u := fun p x3 x4 y u ou => by
    unfold XLaRe_readCondition_j48
    by_cases d1 : y = 124
    · rw [if_pos d1]
      by_cases d2 : p = 0
      · exact ⟨_, by rw [if_pos d2], lK_refl _, ou⟩
      · rw [if_neg d2]
        obtain ⟨t, f1, f2, f3⟩ := l_add 124 0 _ ou
        rw [f1]
        exact ⟨t, rfl, f2, f3⟩
    · exact ⟨_, by rw [if_neg d1], lK_refl _, ou⟩
  have j73 : ∀ p x4 y u, l_ok u → ∃ q u9, XLaRe_readCondition_j73 x1 p x4 y u = some (q, u9) ∧ l_K u u9 ∧ l_ok u9 := fun p x4 y u ou => by
    unfold XLaRe_readCondition_j73
    by_cases d1 : y = 38
    · rw [if_pos d1]
      obtain ⟨t, f1, f2, f3⟩ := l_add 38 0 u ou
      rw [f1]
      exact ⟨p, t, rfl, f2, f3⟩
    · exact ⟨1, u, by rw [if_neg d1], lK_refl _, ou⟩
  have e48 : XLaRe_readCondition_j48_1 = XLaRe_readCondition_j48 := by
    funext a b c d e u
    unfold XLaRe_readCondition_j48_1 XLaRe_readCondition_j48
    rfl
  have e73 : XLaRe_readCondition_j73_1 = XLaRe_readCondition_j73 := by
    funext a b c d u
    unfold XLaRe_readCondition_j73_1 XLaRe_readCondition_j73
    rfl
  obtain ⟨⟨w, t⟩, c1, c2, c3⟩ := z_for (fun n k (a : Int32 × Int32 × ax_S) => XLaRe_readCondition_l18 rec n x1 a.1 a.2.1 (nI k) a.2.2) 240 (fun k a => l_K s1 a.2.2 ∧ l_ok a.2.2) (fun b => l_K s1 b.2 ∧ l_ok b.2) (fun n a ha => ⟨(a.1, a.2.2), by
      show XLaRe_readCondition_l18 rec (n + 1) x1 a.1 a.2.1 (nI 240) a.2.2 = _
      rw [XLaRe_readCondition_l18]
      exact if_pos (by decide), ha⟩) (fun n k a hk ha => by
      obtain ⟨p, x3, u⟩ := a
      show (∃ b, XLaRe_readCondition_l18 rec (n + 1) x1 p x3 (nI k) u = some b ∧ _) ∨ ∃ a' : Int32 × Int32 × ax_S, XLaRe_readCondition_l18 rec (n + 1) x1 p x3 (nI k) u = XLaRe_readCondition_l18 rec n x1 a'.1 a'.2.1 (nI (k + 1)) a'.2.2 ∧ _
      have ha1 : l_K s1 u := ha.1
      have ha2 : l_ok u := ha.2
      rw [XLaRe_readCondition_l18, if_neg (by rw [q_240, z_le (by omega) (by omega)]; omega), e48, e73]
      obtain ⟨u4, f1, f2, f3⟩ := j48 p x3 (nI k) x3 (XTa_step u) (lok_K (l_step u) ha2)
      obtain ⟨u5, g1, g2, g3⟩ := h u4 f3
      obtain ⟨q, u8, i1, i2, i3⟩ := j73 p (nI k) x3 u5 g3
      obtain ⟨v9, k1⟩ := a_peek u8
      simp only [f1, g1, i1, k1, z_1]
      by_cases d1 : x3 = 38
      · exact Or.inr ⟨(q, v9, u8), by rw [if_pos d1], lK_tr ha1 (lK_tr (lK_of (l_step u)) (lK_tr f2 (lK_tr g2 i2))), i3⟩
      · rw [if_neg d1]
        by_cases d2 : x3 = 124
        · exact Or.inr ⟨(q, v9, u8), by rw [if_pos d2], lK_tr ha1 (lK_tr (lK_of (l_step u)) (lK_tr f2 (lK_tr g2 i2))), i3⟩
        · exact Or.inl ⟨(p, u), by rw [if_neg d2], ha1, ha2⟩) n k (p, x3, s1) hk ⟨lK_refl _, o⟩ hn
  exact ⟨w, t, c1, c2, c3⟩
def l_cen (o : Option (Int32 × ax_S)) : Option ax_S := match o with
  | none => none
  | some (v, s) => l_sac v s
theorem la_cen (q : Int32) (t : ax_S) (o : l_ok t) : l_an (l_cen (some (q, t))) t := by
  show l_an (l_sac q t) t
  unfold l_sac
  by_cases c : q = 0
  · rw [if_pos c]; exact ⟨t, rfl, lK_refl _, o⟩
  · rw [if_neg c]
    obtain ⟨u, f1, f2, f3⟩ := l_add 124 0 t o
    rw [f1]
    exact ⟨u, rfl, f2, f3⟩
theorem l_condE (rec : Nat → Int32 → Int32 → ax_S → Option ax_S) (x1 : Int32) (s : ax_S) : XLaRe_readCondition rec x1 s = (match rec 1 x1 0 s with
    | none => none
    | some s1 => match XTa_peek s1 with
      | none => none
      | some v2 => l_cen (XLaRe_readCondition_l18 rec 70000 x1 0 v2 0 s1)) := by
  unfold XLaRe_readCondition l_cen l_sac
  cases rec 1 x1 0 s with
  | none => rfl
  | some s1 =>
    simp only []
    cases XTa_peek s1 with
    | none => rfl
    | some v2 =>
      simp only []
      generalize XLaRe_readCondition_l18 rec 70000 x1 0 v2 0 s1 = o
      rcases o with _ | ⟨v, t⟩
      · rfl
      · rfl
theorem c18_a (rec : Nat → Int32 → Int32 → ax_S → Option ax_S) (x1 p : Int32) (n i : Nat) (s : ax_S) (hi : i < 240) : XLaRe_readCondition_l18 rec (n + 1) x1 p 38 (nI i) s = (match rec 1 x1 0 (XTa_step s) with
      | none => none
      | some s5 => match XLa_add_44 38 0 s5 with
        | none => none
        | some s6 => match XTa_peek s6 with
          | none => none
          | some v9 => XLaRe_readCondition_l18 rec n x1 p v9 (nI (i + 1)) s6) := by
  rw [XLaRe_readCondition_l18, if_neg (by rw [q_240, z_le (by omega) (by omega)]; omega), if_pos rfl, z_1]
  have e : XLaRe_readCondition_j48 x1 p 38 (nI i) 38 (XTa_step s) = some (XTa_step s) := by
    unfold XLaRe_readCondition_j48
    rw [if_neg (by decide)]
  rw [e]
  simp only []
  cases rec 1 x1 0 (XTa_step s) with
  | none => rfl
  | some s5 =>
    simp only []
    unfold XLaRe_readCondition_j73
    rw [if_pos rfl]
    cases XLa_add_44 38 0 s5 with
    | none => rfl
    | some s6 => rfl
theorem c18_o (rec : Nat → Int32 → Int32 → ax_S → Option ax_S) (x1 p : Int32) (n i : Nat) (s : ax_S) (hi : i < 240) : XLaRe_readCondition_l18 rec (n + 1) x1 p 124 (nI i) s = (match l_sac p (XTa_step s) with
    | none => none
    | some s4 => match rec 1 x1 0 s4 with
      | none => none
      | some s5 => match XTa_peek s5 with
          | none => none
          | some v9 => XLaRe_readCondition_l18 rec n x1 1 v9 (nI (i + 1)) s5) := by
  rw [XLaRe_readCondition_l18, if_neg (by rw [q_240, z_le (by omega) (by omega)]; omega), if_neg (by decide), if_pos rfl, z_1]
  have e : XLaRe_readCondition_j48_1 x1 p 124 (nI i) 124 (XTa_step s) = l_sac p (XTa_step s) := by
    unfold XLaRe_readCondition_j48_1 l_sac
    rw [if_pos rfl]
    rfl
  rw [e]
  cases l_sac p (XTa_step s) with
  | none => rfl
  | some s4 =>
    simp only []
    cases rec 1 x1 0 s4 with
    | none => rfl
    | some s5 =>
      simp only []
      unfold XLaRe_readCondition_j73_1
      rw [if_neg (by decide)]
      rfl
theorem c18_e (rec : Nat → Int32 → Int32 → ax_S → Option ax_S) (x1 p v : Int32) (n i : Nat) (s : ax_S) (h1 : v ≠ 38) (h2 : v ≠ 124) : XLaRe_readCondition_l18 rec (n + 1) x1 p v (nI i) s = some (p, s) := by
  rw [XLaRe_readCondition_l18, if_neg h1, if_neg h2, ite_self]
theorem l_condL {B : Nat → Nat} {n : Nat} (hn : n ≤ 240) (rec : Nat → Int32 → Int32 → ax_S → Option ax_S) (d D : Nat) (hd : d ≤ 6) (hD : 1 ≤ D) (hla : ∀ s, l_ok s → l_an (rec 1 (nI d) 0 s) s) (hf : l_TEST B n 0 (fun s => rec 1 (nI d) 0 s) d D) (a cX cM w : Nat) (hcX : cX ≤ a) (hcM : cM ≤ a) (hw : w ≤ a) (hw1 : 1 ≤ w) :
    ∀ g N e j sX sM b i p n' cx cm w1, a < b → b ≤ n → i ≤ b → n - b < g → n - b < N → 0 < e → n - b < j → 240 - i < n' → sM.2.1 69 (w - 1) = l_cd 13 0 → l_cX B n b cx sX → l_cM B n b cm w1 d sM → l_HC p cX cM w D sX sM cx cm w1 (b - a) →
    (∃ b' m V tX tM uM N' j' w' c', b ≤ b' ∧ b' ≤ n ∧ m ≤ b' - a ∧ n - b' < N' ∧ n - b' < j' ∧ l_cen (XLaRe_readCondition_l18 rec n' (nI d) (nI p) (t_ch B n b) (nI i) sX) = some tX ∧ l_E2 e j N sM = l_af j' N' tM ∧ l_cX B n b' (cX + m) tX ∧ l_oX tX cX m V (D + 2) ∧ l_gX cX sX tX ∧ l_cM B n b' c' w' d tM ∧ l_gM cM w sM tM ∧
      M_lands 1 tM = some uM ∧ l_cM B n b' (cM + m) w d uM ∧ l_oM uM cM m V (D + 2) ∧ l_gM cM w tM uM ∧ t_ch B n b' ≠ 38 ∧ t_ch B n b' ≠ 124 ∧ l_bo V) ∨
    (∃ tX tM, l_cen (XLaRe_readCondition_l18 rec n' (nI d) (nI p) (t_ch B n b) (nI i) sX) = some tX ∧ l_E2 e j N sM = some (0, tM) ∧ t_F tX tM ∧ l_K sX tX ∧ l_ok tX ∧ l_N sM tM) := by
  intro g
  induction g with
  | zero => intro N e j sX sM b i p n' cx cm w1 h1 h2 h3 h4; omega
  | succ g ih =>
    intro N e j sX sM b i p n' cx cm w1 hab hbn hib hg hN he hj hn' h13 hX hM hH
    have kn : n ≤ 260 := by omega
    obtain ⟨e1, rfl⟩ : ∃ x, e = x + 1 := ⟨e - 1, by omega⟩
    obtain ⟨j1, rfl⟩ : ∃ x, j = x + 1 := ⟨j - 1, by omega⟩
    obtain ⟨n1, rfl⟩ : ∃ x, n' = x + 1 := ⟨n' - 1, by omega⟩
    obtain ⟨w2, w3, w4, w5, w6⟩ := hc_w hH
    obtain ⟨k, q, k1, k2, k3, k4⟩ := hc_top hH hw1 h13 (by omega)
    have hE2 : l_E2 (e1 + 1) (j1 + 1) N sM = l_af (j1 + 1) N sM := by
      unfold l_E2
      rw [ep_no hM (by omega) (Or.inr ⟨k, q, by omega, by omega, k3, k4⟩) e1]
    rw [hE2]
    obtain ⟨st1, st2⟩ := X_sp hX cx
    by_cases c38 : t_ch B n b = 38
    · have bn : b < n := ch_lt (v := 38) c38 (by omega)
      obtain ⟨uM, jj, w0, mT, T, f1, f2, f3, f4, f5, f6, f7, f8, f9, f10⟩ := hc_c0 hM hH hw1 h13 (by omega) (by omega)
      obtain ⟨t, t1, t2, t3, t4, t5⟩ := M_ju f2 (by omega) (by omega) 11
      have t1 : M_jumps 11 uM = some t := t1
      have haf : l_af (j1 + 1) N sM = M_readsCondition_l40 N t := by
        unfold l_af
        rw [M_readsCondition_l92, p_here hM.1 kn (by omega)]
        simp only [c38]
        rw [if_neg (show ¬ (38 : Int32) = 41 by decide)]
        simp only [p_here hM.1 kn (show b ≤ 300 by omega), c38, if_true]
        rw [show M_readsCondition_j187 38 sM = 0 from rfl, f1]
        simp only [p_here f2.1 kn (show b ≤ 300 by omega), c38]
        rw [show M_readsCondition_j205 38 uM = 11 from rfl, t1]
      rw [haf, c38, c18_a rec (nI d) (nI p) n1 i sX (by omega)]
      rcases hf (XTa_step sX) t (b + 1) cx (jj + mT + 1) (w0 + 1) N (by omega) (by omega) (by omega) (by omega) (by omega) (by omega) (Or.inl rfl) (Or.inr ⟨11, jj + mT, by omega, by omega, by omega, by rw [show w0 + 1 - 1 = w0 by omega]; exact t3⟩) st1 t2 with ⟨b2, mF, F, tX, tM, N2, e2, j2, g1, g2, g3, g4, g5, g6, g7, g8, g9, g10, g11, g12, g13, g14, g15⟩ | ⟨tX, tM, g1, g2, g3, g4, g5, g6⟩
      · have g7 : rec 1 (nI d) 0 (XTa_step sX) = some tX := g7
        rw [g7, g8]
        obtain ⟨vX, a1, a2, a3, a4, a5⟩ := X_ad g9 (by omega) 38 0
        simp only [a1, p_peek a2.1 kn (show b2 ≤ 300 by omega)]
        have gx1 : l_gX cx sX vX := gX_tr st2 (gX_tr g13 a5 (by omega)) (Nat.le_refl _)
        have gm2 : l_gM (jj + mT) w0 uM tM := gM_tr t5 g14 (by omega) (by omega)
        have gm1 : l_gM cM w sM tM := gM_tr f3 gm2 (by omega) (by omega)
        have hcT : l_cT tM jj w0 (w0 + 1) (mT + mF + 1) (fun E => l_join 38 (T E) (F E)) D := Or.inr ⟨mT, mF, T, F, rfl, rfl, oM_cg f8 gm2 (Nat.le_refl _), by rw [g14.2.1 _ (by omega)]; exact t4, by rw [g14.2.2 _ (by omega)]; exact t3, g12, f9, rfl⟩
        have hop : l_isop 38 := by unfold l_isop; omega
        have hbo : l_bo fun E => l_join 38 (T E) (F E) := bo_jn (Or.inl rfl) f9 g15
        have hH2 : l_HC p cX cM w D vX tM (cx + mF + 1) (jj + mT + 1 + mF) (w0 + 1) (b2 - a) := by
          rcases f10 with ⟨rfl, rfl, rfl, rfl, h5, h6⟩ | ⟨mA, A, rfl, rfl, rfl, rfl, h5, h6, h7, h8, h9, h10, h11⟩
          · exact Or.inl ⟨rfl, mT + mF + 1, _, by omega, by omega, by omega, oX_le (l_seg_op (oX_cg h6 gx1 (Nat.le_refl _)) (oX_cg g11 a5 (Nat.le_refl _)) a3 hop) (by omega), hcT, hbo⟩
          · exact Or.inr ⟨rfl, mA, mT + mF + 1, A, _, by omega, by omega, by omega, oX_cg h6 gx1 (by omega), oX_le (l_seg_op (oX_cg h7 gx1 (Nat.le_refl _)) (oX_cg g11 a5 (Nat.le_refl _)) a3 hop) (by omega), oM_cg h8 gm2 (by omega), by rw [gm2.2.1 _ (by omega)]; exact h9, by rw [gm2.2.2 _ (by omega)]; exact h10, hcT, h11, hbo⟩
        rcases ih N2 e2 j2 vX tM b2 (i + 1) p n1 (cx + mF + 1) (jj + mT + 1 + mF) (w0 + 1) (by omega) g2 (by omega) (by omega) g4 (by omega) g6 (by omega) (by rw [gm1.2.2 _ (by omega)]; exact h13) a2 g10 hH2 with ⟨b', m', V', tX', tM', uM', N', j', w', c', i1, i2, i3, i4, i5, i6, i7, i8, i9, i10, i11, i12, i13⟩ | ⟨tX', tM', i1, i2, i3, i4, i5, i6⟩
        · exact Or.inl ⟨b', m', V', tX', tM', uM', N', j', w', c', by omega, i2, i3, i4, i5, i6, i7, i8, i9, gX_tr (gX_le gx1 w6) i10 (Nat.le_refl _), i11, gM_tr gm1 i12 (Nat.le_refl _) (Nat.le_refl _), i13⟩
        · exact Or.inr ⟨tX', tM', i1, i2, i3, lK_tr gx1.1 i4, i5, lN_tr gm1.1 i6⟩
      · have g1 : rec 1 (nI d) 0 (XTa_step sX) = some tX := g1
        rw [g1, g2]
        obtain ⟨v, v1, v2, v3⟩ := l_add 38 0 tX g5
        obtain ⟨v10, h10⟩ := a_peek v
        simp only [v1, h10]
        obtain ⟨q, t7, y1, y2, y3⟩ := la_condL rec (nI d) hla n1 (nI p) v10 (i + 1) v (by omega) (by omega) v3
        rw [y1]
        obtain ⟨t6, z1, z2, z4⟩ := la_cen q t7 y3
        refine Or.inr ⟨t6, tM, z1, rfl, ?_, lK_tr st2.1 (lK_tr g4 (lK_tr v2 (lK_tr y2 z2))), z4, lN_tr f3.1 (lN_tr t5.1 g6)⟩
        · obtain ⟨q1, q2, q3, q4, q5, q6, q7⟩ := g3
          exact ⟨q1, q2, q3, q4, q5, by rw [(lK_tr v2 (lK_tr y2 z2)).1 (by rw [q6]; exact (t_fc_ne q3 q4 q5).1)]; exact q6, q7⟩
    by_cases c124 : t_ch B n b = 124
    · have bn : b < n := ch_lt (v := 124) c124 (by omega)
      have hH1 := hc_gX hH st2 (Nat.le_refl _)
      obtain ⟨m, V, uX, uM, f1, f2, f3, f4, f5, f6, f7, f8, f9, f10⟩ := hc_cl st1 hM hH1 hw1 h13 (by omega) (by omega) (by omega)
      have g9' : l_gX cX sX uX := gX_tr (gX_of cX (l_step sX)) f5 (Nat.le_refl _)
      obtain ⟨t, t1, t2, t3, t4, t5⟩ := M_ju f7 (by omega) (by omega) 12
      have t1 : M_jumps 12 uM = some t := t1
      have haf : l_af (j1 + 1) N sM = M_readsCondition_l40 N t := by
        unfold l_af
        rw [M_readsCondition_l92, p_here hM.1 kn (by omega)]
        simp only [c124]
        rw [if_neg (show ¬ (124 : Int32) = 41 by decide)]
        simp only [p_here hM.1 kn (show b ≤ 300 by omega), c124]
        rw [if_neg (show ¬ (124 : Int32) = 38 by decide), if_pos trivial, show M_readsCondition_j187_1 124 sM = 1 from rfl, f6]
        simp only [p_here f7.1 kn (show b ≤ 300 by omega), c124]
        rw [show M_readsCondition_j205_1 124 uM = 12 from rfl, t1]
      rw [haf, c124, c18_o rec (nI d) (nI p) n1 i sX (by omega), f2]
      simp only []
      rcases hf uX t (b + 1) (cX + m) (cM + m + 1) (w + 1) N (by omega) (by omega) (by omega) (by omega) (by omega) (by omega) (Or.inl rfl) (Or.inr ⟨12, cM + m, by omega, by omega, by omega, by rw [show w + 1 - 1 = w by omega]; exact t3⟩) f3 t2 with ⟨b2, mF, F, tX, tM, N2, e2, j2, g1, g2, g3, g4, g5, g6, g7, g8, g9, g10, g11, g12, g13, g14, g15⟩ | ⟨tX, tM, g1, g2, g3, g4, g5, g6⟩
      · have g7 : rec 1 (nI d) 0 uX = some tX := g7
        rw [g7, g8]
        simp only [p_peek g9.1 kn (show b2 ≤ 300 by omega)]
        have gm2 : l_gM (cM + m) w uM tM := gM_tr t5 g14 (by omega) (by omega)
        have gm1 : l_gM cM w sM tM := gM_tr f9 gm2 (by omega) (by omega)
        have hH2 : l_HC 1 cX cM w D tX tM (cX + m + mF) (cM + m + 1 + mF) (w + 1) (b2 - a) := Or.inr ⟨rfl, m, mF, V, F, rfl, rfl, by omega, oX_cg f4 g13 (Nat.le_refl _), oX_le g11 (by omega), oM_cg f8 gm2 (Nat.le_refl _), by rw [g14.2.1 _ (by omega)]; exact t4, by rw [g14.2.2 w (by omega)]; exact t3, Or.inl ⟨rfl, oM_le g12 (by omega)⟩, f10, g15⟩
        rcases ih N2 e2 j2 tX tM b2 (i + 1) 1 n1 (cX + m + mF) (cM + m + 1 + mF) (w + 1) (by omega) g2 (by omega) (by omega) g4 (by omega) g6 (by omega) (by rw [gm1.2.2 _ (by omega)]; exact h13) g9 g10 hH2 with ⟨b', m', V', tX', tM', uM', N', j', w', c', i1, i2, i3, i4, i5, i6, i7, i8, i9, i10, i11, i12, i13⟩ | ⟨tX', tM', i1, i2, i3, i4, i5, i6⟩
        · exact Or.inl ⟨b', m', V', tX', tM', uM', N', j', w', c', by omega, i2, i3, i4, i5, i6, i7, i8, i9, gX_tr (gX_tr g9' g13 (by omega)) i10 (Nat.le_refl _), i11, gM_tr gm1 i12 (Nat.le_refl _) (Nat.le_refl _), i13⟩
        · exact Or.inr ⟨tX', tM', i1, i2, i3, lK_tr g9'.1 (lK_tr g13.1 i4), i5, lN_tr gm1.1 i6⟩
      · have g1 : rec 1 (nI d) 0 uX = some tX := g1
        rw [g1, g2]
        obtain ⟨v10, h10⟩ := a_peek tX
        simp only [h10]
        obtain ⟨q, t7, y1, y2, y3⟩ := la_condL rec (nI d) hla n1 1 v10 (i + 1) tX (by omega) (by omega) g5
        rw [y1]
        obtain ⟨t6, z1, z2, z4⟩ := la_cen q t7 y3
        refine Or.inr ⟨t6, tM, z1, rfl, ?_, lK_tr g9'.1 (lK_tr g4 (lK_tr y2 z2)), z4, lN_tr f9.1 (lN_tr t5.1 g6)⟩
        obtain ⟨q1, q2, q3, q4, q5, q6, q7⟩ := g3
        exact ⟨q1, q2, q3, q4, q5, by rw [(lK_tr y2 z2).1 (by rw [q6]; exact (t_fc_ne q3 q4 q5).1)]; exact q6, q7⟩
    · obtain ⟨m, V, uX, uM, f1, f2, f3, f4, f5, f6, f7, f8, f9, f10⟩ := hc_cl hX hM hH hw1 h13 (by omega) (by omega) (by omega)
      exact Or.inl ⟨b, m, V, uX, sM, uM, N, j1 + 1, w1, cm, by omega, hbn, f1, hN, hj, by rw [c18_e _ _ _ _ _ _ _ c38 c124]; exact f2, rfl, f3, f4, f5, hM, gM_refl _ _ _, f6, f7, f8, f9, c38, c124, f10⟩
/-- a condition -/
theorem l_condT {B : Nat → Nat} {n : Nat} (hn : n ≤ 240) (rec : Nat → Int32 → Int32 → ax_S → Option ax_S) (d D : Nat) (hd : d ≤ 6) (hD : 1 ≤ D) (hla : ∀ s, l_ok s → l_an (rec 1 (nI d) 0 s) s) (hf : l_TEST B n 0 (fun s => rec 1 (nI d) 0 s) d D) : l_COND B n (fun s => XLaRe_readCondition rec (nI d) s) d (D + 2) := by
  intro sX sM a cX cM w N ha hcX hcM hw hw1 hN h13 hX hM
  simp only [l_condE]
  rcases hf sX sM a cX cM w N ha hcX hcM hw hw1 hN (Or.inl rfl) (Or.inr ⟨13, 0, by omega, by omega, by omega, h13⟩) hX hM with ⟨b, m, V, tX, tM, N', e, j, f1, f2, f3, f4, f5, f6, f7, f8, f9, f10, f11, f12, f13, f14, f15⟩ | ⟨tX, tM, f1, f2, f3, f4, f5, f6⟩
  · have f7 : rec 1 (nI d) 0 sX = some tX := f7
    rw [f7, f8]
    simp only [p_peek f9.1 (show n ≤ 260 by omega) (show b ≤ 300 by omega)]
    have hH : l_HC 0 cX cM w D tX tM (cX + m) (cM + m) w (b - a) := Or.inl ⟨rfl, m, V, rfl, rfl, f3, oX_le f11 (by omega), Or.inl ⟨rfl, oM_le f12 (by omega)⟩, f15⟩
    rcases l_condL hn rec d D hd hD hla hf a cX cM w hcX hcM hw hw1 (n - b + 1) N' e j tX tM b 0 0 70000 (cX + m) (cM + m) w f1 f2 (by omega) (by omega) f4 (by omega) f6 (by omega) (by rw [f14.2.2 _ (by omega)]; exact h13) f9 f10 hH with ⟨b', m', V', tX', tM', uM', N', j', w', c', i1, i2, i3, i4, i5, i6, i7, i8, i9, i10, i11, i12, i13⟩ | ⟨tX', tM', i1, i2, i3, i4, i5, i6⟩
    · exact Or.inl ⟨b', m', V', tX', tM', uM', N', j', w', c', by omega, i2, i3, i4, i5, i6, i7, i8, i9, gX_tr f13 i10 (by omega), i11, gM_tr f14 i12 (by omega) (Nat.le_refl _), i13⟩
    · exact Or.inr ⟨tX', tM', i1, i2, i3, lK_tr f13.1 i4, i5, lN_tr f14.1 i6⟩
  · have f1 : rec 1 (nI d) 0 sX = some tX := f1
    rw [f1, f2]
    obtain ⟨v10, h10⟩ := a_peek tX
    simp only [h10]
    obtain ⟨q, t5, j1, j2, j3⟩ := la_condL rec (nI d) hla 70000 0 v10 0 tX (by omega) (by omega) f5
    have j1 : XLaRe_readCondition_l18 rec 70000 (nI d) 0 v10 0 tX = some (q, t5) := j1
    rw [j1]
    obtain ⟨t6, k1, k2, k4⟩ := la_cen q t5 j3
    refine Or.inr ⟨t6, tM, k1, rfl, ?_, lK_tr f4 (lK_tr j2 k2), k4, f6⟩
    obtain ⟨q1, q2, q3, q4, q5, q6, q7⟩ := f3
    exact ⟨q1, q2, q3, q4, q5, by rw [(lK_tr j2 k2).1 (by rw [q6]; exact (t_fc_ne q3 q4 q5).1)]; exact q6, q7⟩
/-- tests and conditions of the class's recursion -/
theorem l_recC {B : Nat → Nat} {n : Nat} (hB : ∀ k, B k < 256) (hn : n ≤ 240) : ∀ m d, d ≤ 6 → (22 - 3 * d ≤ m → l_COND B n (fun s => XLaRe_rec m 0 (nI d) 0 s) d (30 - 2 * d)) ∧ (21 - 3 * d ≤ m → l_TEST B n 0 (fun s => XLaRe_rec m 1 (nI d) 0 s) d (28 - 2 * d)) ∧ (20 - 3 * d ≤ m → ∀ v, v = 33 ∨ v = 40 → l_TEST B n v (fun s => XLaRe_rec m 2 (nI v) (nI d) s) d (28 - 2 * d)) := by
  intro m
  induction m with
  | zero => intro d hd; exact ⟨fun h => by omega, fun h => by omega, fun h => by omega⟩
  | succ m ih =>
    intro d hd
    refine ⟨fun h => ?_, fun h => ?_, fun h v hv => ?_⟩
    · have := l_condT hn (XLaRe_rec m) d (28 - 2 * d) hd (by omega) (fun s o => (la_rec m d hd).2.1 (by omega) 0 s o) ((ih d hd).2.1 (by omega))
      rw [show 28 - 2 * d + 2 = 30 - 2 * d by omega] at this
      exact this
    · exact l_test hn (XLaRe_rec m) d (28 - 2 * d) (15 - 2 * d) hd (by omega) (by omega) ((ih d hd).2.2 (by omega)) ((l_recS hB hn m d hd).1 (by omega)) (fun s o => (la_rec m d hd).2.2.2.1 (by omega) 0 s o)
    · exact l_open hn (XLaRe_rec m) v d (28 - 2 * d) hd (by omega) hv (fun h6 => by
        intro sX sM a cX cM w N h1 h2 h3 h4 h5 h7 h8 h9 h10 h11
        rcases (ih (d + 1) (by omega)).2.1 (by omega) sX sM a cX cM w N h1 h2 h3 h4 h5 h7 h8 h9 h10 h11 with ⟨b, m, V, tX, tM, N', e, j, f1, f2, f3, f4, f5, f6, f7, f8, f9, f10, f11, f12, f13⟩ | f
        · exact Or.inl ⟨b, m, V, tX, tM, N', e, j, f1, f2, f3, f4, f5, f6, f7, f8, f9, f10, oX_le f11 (by omega), oM_le f12 (by omega), f13⟩
        · exact Or.inr f) (fun h6 => by
        have := (ih (d + 1) (by omega)).1 (by omega)
        rw [show 30 - 2 * (d + 1) = 28 - 2 * d by omega] at this
        exact this)
