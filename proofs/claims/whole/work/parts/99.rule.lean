/-! law: a rule, both readers -/
theorem take_eq {B : Nat → Nat} {n b c : Nat} {s : ax_S} (h : l_cX B n b c s) (hn : n ≤ 260) (hb : b ≤ n) (x : Int32) : (t_ch B n b = x ∧ XTa_take x s = some (1, XTa_step s)) ∨ (t_ch B n b ≠ x ∧ XTa_take x s = some (0, XTa_refuseAt 1 (nI b) s)) := by
  unfold XTa_take
  rw [p_peek h.1 hn (by omega)]
  simp only []
  by_cases e : t_ch B n b = x
  · exact Or.inl ⟨e, by rw [if_pos e]; rfl⟩
  · exact Or.inr ⟨e, by rw [if_neg e, h.1.2.1]⟩
/-- ( C ) -/
def l_xC (s : ax_S) : Option ax_S := match XTa_take 40 s with
  | none => none
  | some (v6, s7) => XLaRe_readLine_j50 v6 s7
theorem l_condR {B : Nat → Nat} {n a cX cM : Nat} {sX sM : ax_S} (hB : ∀ k, B k < 256) (hn : n ≤ 240) (ha : a ≤ n) (hcX : cX ≤ a) (hcM : cM ≤ a) (hX : l_cX B n a cX sX) (hM : t_M B n a sM) (hMc : sM.2.1 63 11 = nI cM) :
    (∃ b m W tX tM, a < b ∧ b ≤ n ∧ m ≤ b - a ∧ l_xC sX = some tX ∧ M_readsCondition sM = some (1, tM) ∧ l_cX B n b (cX + m) tX ∧ t_M B n b tM ∧ tM.2.1 63 11 = nI (cM + m) ∧ l_oX tX cX m W 30 ∧ l_oM tM cM m W 30 ∧ l_gX cX sX tX ∧ l_gM cM 0 sM tM) ∨
    (∃ tX tM, l_xC sX = some tX ∧ M_readsCondition sM = some (0, tM) ∧ t_F tX tM ∧ l_K sX tX ∧ l_ok tX ∧ l_N sM tM) := by
  have kn : n ≤ 260 := by omega
  unfold l_xC M_readsCondition
  rw [p_here hM kn (by omega)]
  rcases take_eq hX kn ha 40 with ⟨e1, e2⟩ | ⟨e1, e2⟩
  · rw [e2]
    simp only [e1, if_true]
    have an : a < n := ch_lt (v := 40) e1 (by omega)
    have hM0 : l_cM B n a cM 0 0 (ax_sI (ax_sI sM 63 10 0) 63 12 0) := by
      refine ⟨⟨?_, ?_, fun k => ?_⟩, ?_, ?_, ?_⟩
      · rw [r_two _ _ (by omega) (by omega)]; exact hM.1
      · rw [r_two _ _ (by omega) (by omega)]; exact hM.2.1
      · rw [r_two _ _ (by omega) (by omega)]; exact hM.2.2 k
      · rw [r_two _ _ (by omega) (by omega)]; exact hMc
      · rw [r_Ie, r_u]; rfl
      · rw [r_one _ _ (by omega), r_Ie, r_u]; rfl
    have gM0 : l_gM cM 0 sM (ax_sI (ax_sI sM 63 10 0) 63 12 0) := ⟨fun c j h1 h2 h3 => r_two _ _ (by omega) (by omega), fun q hq => r_two _ _ (by omega) (by omega), fun q hq => by omega⟩
    obtain ⟨t, o1, o2, o3, o4⟩ := M_op hM0 (by omega) (show 0 < 6 by omega) 13 cM
    have o1 : M_opens 13 (ax_sI (ax_sI sM 63 10 0) 63 12 0) = some (1, t) := o1
    rw [o1]
    simp only [z_10, if_false]
    obtain ⟨x1, x2⟩ := X_sp hX cX
    have hj : ∀ s, XLaRe_readLine_j50 1 s = (match XLaRe_rec 48 0 1 0 s with
        | none => none
        | some s8 => match XTa_take 41 s8 with
          | none => none
          | some (_, s10) => some s10) := fun s => by
      unfold XLaRe_readLine_j50
      rw [if_neg (by decide)]
      rfl
    rw [hj]
    rcases (l_recC hB hn 48 1 (by omega)).1 (by omega) (XTa_step sX) t (a + 1) cX cM 1 70000 (by omega) (by omega) (by omega) (by omega) (by omega) (by omega) o3 x1 o2 with ⟨b, m, V, tX, tM, uM, N', j, w', c', s1, s2, s3, s4, s5, s6, s7, s8, s9, s10, s11, s12, s13, s14, s15, s16, s17, s18, s19⟩ | ⟨tX, tM, s1, s2, s3, s4, s5, s6⟩
    · have s6 : XLaRe_rec 48 0 1 0 (XTa_step sX) = some tX := s6
      rw [s6, s7]
      simp only []
      obtain ⟨j1, rfl⟩ : ∃ x, j = x + 1 := ⟨j - 1, by omega⟩
      rcases take_eq s8 kn (by omega) 41 with ⟨d1, d2⟩ | ⟨d1, d2⟩
      · have bn : b < n := ch_lt (v := 41) d1 (by omega)
        obtain ⟨y1, y2⟩ := X_sp s8 (cX + m)
        obtain ⟨z1, z2⟩ := M_cl (w := 0) (d := 0) s14 (cM + m) 0
        refine Or.inl ⟨b + 1, m, V, XTa_step tX, _, by omega, by omega, by omega, by rw [d2], ?_, y1, z1.1, z1.2.1, oX_le (oX_cg s9 y2 (Nat.le_refl _)) (by omega), oM_le (oM_cg s15 z2 (Nat.le_refl _)) (by omega), gX_tr x2 (gX_tr s10 y2 (by omega)) (Nat.le_refl _), gM_tr gM0 (gM_tr o4 (gM_tr (gM_le s12 (Nat.le_refl _) (show 0 ≤ 1 by omega)) (gM_tr (gM_le s16 (Nat.le_refl _) (show 0 ≤ 1 by omega)) z2 (by omega) (Nat.le_refl _)) (Nat.le_refl _) (Nat.le_refl _)) (Nat.le_refl _) (Nat.le_refl _)) (Nat.le_refl _) (Nat.le_refl _)⟩
        unfold l_af
        rw [M_readsCondition_l92, p_here s11.1 kn (by omega)]
        simp only [d1, if_true, s13]
        rw [if_pos (by rw [s14.2.2.1]; decide)]
      · obtain ⟨w1, w3, w4⟩ := M_wr 1 b tM
        have kX : t_K tX (XTa_refuseAt 1 (nI b) tX) := K_ref _ _ _
        refine Or.inr ⟨XTa_refuseAt 1 (nI b) tX, (M_wrongAt (nI 1) (nI b) tM).2, by rw [d2], ?_, ⟨1, b, by omega, by omega, by omega, X_rf s8.1 1 b, w3⟩, lK_tr x2.1 (lK_tr s10.1 (lK_of kX)), lok_K kX (cX_ok s8 (by omega)), lN_tr gM0.1 (lN_tr o4.1 (lN_tr s12.1 (lN_of w4)))⟩
        unfold l_af
        rw [M_readsCondition_l92, p_here s11.1 kn (by omega)]
        simp only [if_neg d1, p_here s11.1 kn (show b ≤ 300 by omega), if_neg s17, if_neg s18]
        rw [s11.1.2.1]
        rfl
    · have s1 : XLaRe_rec 48 0 1 0 (XTa_step sX) = some tX := s1
      obtain ⟨v, u, f1, f2⟩ := a_take 41 tX
      rw [s1, s2]
      exact Or.inr ⟨u, tM, by simp only [f1], rfl, F_K s3 f2, lK_tr x2.1 (lK_tr s4 (lK_of f2)), lok_K f2 s5, lN_tr gM0.1 (lN_tr o4.1 s6)⟩
  · obtain ⟨w1, w3, w4⟩ := M_wr 1 a sM
    rw [e2]
    simp only [if_neg e1]
    refine Or.inr ⟨XTa_refuseAt 1 (nI a) sX, (M_wrongAt (nI 1) (nI a) sM).2, ?_, ?_, ⟨1, a, by omega, by omega, by omega, X_rf hX.1 1 a, w3⟩, lK_of (K_ref _ _ _), lok_K (K_ref _ _ _) (cX_ok hX (by omega)), lN_of w4⟩
    · unfold XLaRe_readLine_j50
      rw [if_pos rfl]
    · rw [hM.2.1]; rfl
/-- what a rule leaves alone -/
def l_KR (s t : ax_S) : Prop := (s.2.1 1 5 ≠ 0 → t.2.1 1 5 = s.2.1 1 5) ∧ ∀ c j, ¬ (c = 1 ∧ (j = 3 ∨ j = 4 ∨ j = 5)) → ¬ (c = 44 ∧ (j = 7 ∨ j = 8)) → ¬ (45 ≤ c ∧ c ≤ 50) → t.2.1 c j = s.2.1 c j
def l_NR (s t : ax_S) : Prop := ∀ c j, ¬ (c = 63 ∧ (6 ≤ j ∧ j ≤ 13 ∧ j ≠ 7)) → ¬ (68 ≤ c ∧ c ≤ 73) → t.2.1 c j = s.2.1 c j
theorem KR_tr {s t u : ax_S} (h : l_KR s t) (h2 : l_KR t u) : l_KR s u :=
  ⟨fun e => by have := h.1 e; rw [h2.1 (by rw [this]; exact e), this], fun c j a b d => by rw [h2.2 c j a b d, h.2 c j a b d]⟩
theorem KR_of {s t : ax_S} (h : l_K s t) : l_KR s t := ⟨h.1, fun c j a b d => h.2 c j a (by omega) (by omega) (by omega)⟩
theorem NR_tr {s t u : ax_S} (h : l_NR s t) (h2 : l_NR t u) : l_NR s u := fun c j a b => by rw [h2 c j a b, h c j a b]
theorem NR_of {s t : ax_S} (h : l_N s t) : l_NR s t := fun c j a b => h c j (by omega) (by omega) (by omega)
theorem X_bR {s : ax_S} {r : Nat} (h : s.2.1 44 7 = nI r) (hr : r < 16) (v : Int32) : XLa_beginRule_44 v s = some (ax_sI (ax_sI s 45 r v) 46 r (s.2.1 44 8)) := by
  unfold XLa_beginRule_44
  rw [h, if_neg (by rw [q_16, z_le (by omega) (by omega)]; omega), if_neg (l_in (k := r) (N := 16) (by omega) (by omega)), if_neg (l_in (k := r) (N := 16) (by omega) (by omega)), z_cl (by omega)]
theorem X_bC {s : ax_S} {r : Nat} (h : s.2.1 44 7 = nI r) (hr : r < 16) : XLa_beginCondition_44 s = some (ax_sI s 47 r (s.2.1 44 8)) := by
  unfold XLa_beginCondition_44
  rw [h, if_neg (by rw [q_16, z_le (by omega) (by omega)]; omega), if_neg (l_in (k := r) (N := 16) (by omega) (by omega)), z_cl (by omega)]
theorem X_eR {s : ax_S} {r : Nat} (h : s.2.1 44 7 = nI r) (hr : r < 16) : XLa_endRule_44 s = some (ax_sI (ax_sI s 48 r (s.2.1 44 8)) 44 7 (nI (r + 1))) := by
  unfold XLa_endRule_44
  rw [h, if_neg (by rw [q_16, z_le (by omega) (by omega)]; omega), if_neg (l_in (k := r) (N := 16) (by omega) (by omega)), z_cl (by omega), z_1]
/-- row r of a draft's rules -/
def l_dr (tX tM : ax_S) (q c : Nat) : Prop := ∃ V W b0 b1 b2, b0 ≤ b1 ∧ b1 ≤ b2 ∧ b2 ≤ c ∧ tX.2.1 46 q = nI b0 ∧ tX.2.1 47 q = nI b1 ∧ tX.2.1 48 q = nI b2 ∧ tM.2.1 71 q = nI b0 ∧ tM.2.1 72 q = nI b1 ∧ tM.2.1 73 q = nI b2 ∧ tX.2.1 45 q = tM.2.1 70 q ∧ l_oX tX b1 (b2 - b1) W 30 ∧ l_oM tM b1 (b2 - b1) W 30 ∧ (tX.2.1 45 q ≠ 99 → l_oX tX b0 (b1 - b0) V 30 ∧ l_oM tM b0 (b1 - b0) V 30)
/-- row q and the codes below c stay -/
def l_sr (q c : Nat) (sX tX sM tM : ax_S) : Prop := (∀ k, 45 ≤ k → k ≤ 48 → tX.2.1 k q = sX.2.1 k q) ∧ (∀ i, i < c → tX.2.1 49 i = sX.2.1 49 i ∧ tX.2.1 50 i = sX.2.1 50 i) ∧ (∀ k, 70 ≤ k → k ≤ 73 → tM.2.1 k q = sM.2.1 k q) ∧ ∀ i, i < c → tM.2.1 68 i = sM.2.1 68 i
theorem dr_sr {sX tX sM tM : ax_S} {q c c2 : Nat} (h : l_dr sX sM q c) (g : l_sr q c sX tX sM tM) (e : c ≤ c2) : l_dr tX tM q c2 := by
  obtain ⟨V, W, b0, b1, b2, h1, h2, h3, h4, h5, h6, h7, h8, h9, h10, h11, h12, h13⟩ := h
  obtain ⟨g1, g2, g3, g4⟩ := g
  have cX : ∀ {i m V}, i + m ≤ c → l_oX sX i m V 30 → l_oX tX i m V 30 := fun hi o => seg_cg o fun q _ hq => g2 q (by omega)
  have cM : ∀ {i m V}, i + m ≤ c → l_oM sM i m V 30 → l_oM tM i m V 30 := fun hi o => sgM_cg o fun q _ hq => g4 q (by omega)
  refine ⟨V, W, b0, b1, b2, h1, h2, by omega, by rw [g1 46 (by omega) (by omega)]; exact h4, by rw [g1 47 (by omega) (by omega)]; exact h5, by rw [g1 48 (by omega) (by omega)]; exact h6, by rw [g3 71 (by omega) (by omega)]; exact h7, by rw [g3 72 (by omega) (by omega)]; exact h8, by rw [g3 73 (by omega) (by omega)]; exact h9, by rw [g1 45 (by omega) (by omega), g3 70 (by omega) (by omega)]; exact h10, cX (by omega) h11, cM (by omega) h12, fun hk => ?_⟩
  rw [g1 45 (by omega) (by omega)] at hk
  exact ⟨cX (by omega) (h13 hk).1, cM (by omega) (h13 hk).2⟩
