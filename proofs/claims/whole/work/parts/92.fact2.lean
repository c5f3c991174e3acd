/-! law: a factor, with what is in [ ] -/
def l_sg0 (v : Int32) : Prop := ¬ v = 43 ∧ ¬ v = 45 ∧ ¬ v = 42 ∧ ¬ v = 47 ∧ ¬ v = 37
theorem l_sgs (v : Int32) : (l_sg0 v ∧ ∀ s, XLaRe_joinsNumbers v s = 0 ∧ M_sumSign v s = -1) ∨ ∃ sg kd, v = nI sg ∧ l_kd kd sg ∧ 2 ≤ kd ∧ kd ≤ 6 ∧ sg < 256 ∧ sg ≠ 0 ∧ (∀ s, XLaRe_joinsNumbers v s = 1 ∧ M_sumSign v s = nI kd) ∧ ∀ x1 x2 x4 s, XLaRe_readSum_j43 x1 x2 v x4 v s = if kd ≤ 3 then 1 else 0 := by
  by_cases c1 : v = 43
  · subst c1; exact Or.inr ⟨43, 2, rfl, by unfold l_kd; omega, by omega, by omega, by omega, by omega, fun s => ⟨rfl, rfl⟩, fun _ _ _ _ => rfl⟩
  by_cases c2 : v = 45
  · subst c2; exact Or.inr ⟨45, 3, rfl, by unfold l_kd; omega, by omega, by omega, by omega, by omega, fun s => ⟨rfl, rfl⟩, fun _ _ _ _ => rfl⟩
  by_cases c3 : v = 42
  · subst c3; exact Or.inr ⟨42, 4, rfl, by unfold l_kd; omega, by omega, by omega, by omega, by omega, fun s => ⟨rfl, rfl⟩, fun _ _ _ _ => rfl⟩
  by_cases c4 : v = 47
  · subst c4; exact Or.inr ⟨47, 5, rfl, by unfold l_kd; omega, by omega, by omega, by omega, by omega, fun s => ⟨rfl, rfl⟩, fun _ _ _ _ => rfl⟩
  by_cases c5 : v = 37
  · subst c5; exact Or.inr ⟨37, 6, rfl, by unfold l_kd; omega, by omega, by omega, by omega, by omega, fun s => ⟨rfl, rfl⟩, fun _ _ _ _ => rfl⟩
  refine Or.inl ⟨⟨c1, c2, c3, c4, c5⟩, fun s => ⟨?_, ?_⟩⟩
  · unfold XLaRe_joinsNumbers
    rw [if_neg c1, if_neg c2, if_neg c3, if_neg c4, if_neg c5]
  · unfold M_sumSign
    rw [if_neg c1, if_neg c2, if_neg c3, if_neg c4, if_neg c5]
def l_FACT (B : Nat → Nat) (n : Nat) (f : ax_S → Option ax_S) (d D : Nat) : Prop :=
  ∀ sX sM a cX cM w base N k, a ≤ n → cX ≤ a → cM ≤ a → w ≤ a → base ≤ w → n - a < N → 7 ≤ k + d → l_cX B n a cX sX → l_cM B n a cM w d sM →
   (∃ b m V tX tM N', a < b ∧ b ≤ n ∧ m ≤ b - a ∧ n - b < N' ∧ f sX = some tX ∧ l_FF k (nI base) N sM = l_FN (nI base) N' tM ∧ l_cX B n b (cX + m) tX ∧ l_cM B n b (cM + m) w d tM ∧ l_oX tX cX m V D ∧ l_oM tM cM m V D ∧ l_gX cX sX tX ∧ l_gM cM w sM tM) ∨
   (∃ tX tM, f sX = some tX ∧ l_FF k (nI base) N sM = some (0, tM) ∧ t_F tX tM ∧ l_K sX tX ∧ l_ok tX ∧ l_N sM tM)
def l_SUM (B : Nat → Nat) (n : Nat) (f : ax_S → Option ax_S) (d D : Nat) : Prop :=
  ∀ sX sM a cX cM w base N k, a ≤ n → cX ≤ a → cM ≤ a → w ≤ a → base ≤ w → n - a < N → 7 ≤ k + d → l_lo sM w → l_cX B n a cX sX → l_cM B n a cM w d sM →
   (∃ b m V tX tM uM N' w' c', a < b ∧ b ≤ n ∧ m ≤ b - a ∧ n - b < N' ∧ f sX = some tX ∧ l_FF k (nI base) N sM = l_FN (nI base) N' tM ∧ l_cX B n b (cX + m) tX ∧ l_oX tX cX m V D ∧ l_gX cX sX tX ∧
     l_cM B n b c' w' d tM ∧ w ≤ w' ∧ w' ≤ w + 2 ∧ (∀ q, w ≤ q → q < w' → ∃ j, j ≤ 13 ∧ tM.2.1 69 q = l_cd j 0) ∧ l_gM cM w sM tM ∧
     M_closesSums 1 tM = some uM ∧ l_cM B n b (cM + m) w d uM ∧ l_oM uM cM m V D ∧ l_gM cM w tM uM ∧ l_sg0 (t_ch B n b)) ∨
   (∃ tX tM, f sX = some tX ∧ l_FF k (nI base) N sM = some (0, tM) ∧ t_F tX tM ∧ l_K sX tX ∧ l_ok tX ∧ l_N sM tM)
/-- ) and ] -/
theorem M_cl {B : Nat → Nat} {n a c w d : Nat} {s : ax_S} (h : l_cM B n a c (w + 1) (d + 1) s) (c2 w2 : Nat) :
    l_cM B n (a + 1) c w d (ax_sI (ax_sI (ax_sI s 63 12 (s.2.1 63 12 - 1)) 63 10 (s.2.1 63 10 - 1)) 63 6 (s.2.1 63 6 + 1)) ∧ l_gM c2 w2 s (ax_sI (ax_sI (ax_sI s 63 12 (s.2.1 63 12 - 1)) 63 10 (s.2.1 63 10 - 1)) 63 6 (s.2.1 63 6 + 1)) := by
  obtain ⟨a1, a2⟩ := M_po h c2 w2
  obtain ⟨b1, b2⟩ := M_de a1 c2 w2
  obtain ⟨d1, d2⟩ := M_sp b1 c2 w2
  have e1 : (ax_sI s 63 12 (s.2.1 63 12 - 1)).2.1 63 10 = s.2.1 63 10 := r_one _ _ (by omega)
  rw [e1] at d1 d2 b2
  have e2 : (ax_sI (ax_sI s 63 12 (s.2.1 63 12 - 1)) 63 10 (s.2.1 63 10 - 1)).2.1 63 6 = s.2.1 63 6 := r_two _ _ (by omega) (by omega)
  rw [e2] at d1 d2
  exact ⟨d1, gM_tr a2 (gM_tr b2 d2 (Nat.le_refl _) (Nat.le_refl _)) (Nat.le_refl _) (Nat.le_refl _)⟩
theorem l_ff1 {B : Nat → Nat} {n a c w d k : Nat} {s t : ax_S} (h : l_cM B n a c w d s) (hn : n ≤ 240) (ha : a ≤ n) (hc : t_ch B n a = 91) (ho : M_opens 14 s = some (1, t)) (base : Int32) (N : Nat) : l_FF (k + 1) base N s = l_FF k base N t := by
  have e : l_rf (k + 1) s = l_rf k t := by
    unfold l_rf
    rw [M_readsFactor_l0, p_here h.1 (by omega) (by omega)]
    simp only [hc, if_true, ho]
    rw [if_neg (by decide)]
  unfold l_FF
  rw [e]
theorem l_fact {B : Nat → Nat} {n : Nat} (hB : ∀ k, B k < 256) (hn : n ≤ 240) (rec : Nat → Int32 → Int32 → ax_S → Option ax_S) (d D : Nat) (hd : d ≤ 6) (hD : 1 ≤ D) (hs : d < 6 → l_SUM B n (fun s => rec 3 (nI (d + 1)) 0 s) (d + 1) D) : l_FACT B n (fun s => XLaRe_readFactor rec (nI d) s) d D := by
  intro sX sM a cX cM w base N k ha hcX hcM hw hbw hN hk hX hM
  have kn : n ≤ 260 := by omega
  obtain ⟨k1, rfl⟩ : ∃ x, k = x + 1 := ⟨k - 1, by omega⟩
  by_cases c91 : t_ch B n a = 91
  · have an : a < n := by
      unfold t_ch at c91
      by_cases e : a < n
      · exact e
      · rw [if_neg e] at c91; exact absurd c91 (by decide)
    have hgo : XLaRe_readFactor rec (nI d) sX = (if nI d < 6 then (match rec 3 (nI d + 1) 0 (XTa_step sX) with
        | none => none
        | some s7 => match XTa_take 93 s7 with
          | none => none
          | some (_, s9) => some s9) else some (XTa_refuse 5 sX)) := by
      unfold XLaRe_readFactor
      rw [p_peek hX.1 kn (by omega)]
      simp only [c91, if_true]
      rfl
    show (∃ b m V tX tM N', _ ∧ _ ∧ _ ∧ _ ∧ XLaRe_readFactor rec (nI d) sX = some tX ∧ _) ∨ (∃ tX tM, XLaRe_readFactor rec (nI d) sX = some tX ∧ _)
    rw [hgo]
    by_cases c6 : d < 6
    · rw [if_pos (by rw [q_6, z_lt (by omega) (by omega)]; exact c6), z_1]
      obtain ⟨t, o1, o2, o3, o4⟩ := M_op hM (by omega) c6 14 cM
      have o1 : M_opens 14 sM = some (1, t) := o1
      obtain ⟨x1, x2⟩ := X_sp hX cX
      rw [l_ff1 hM hn ha c91 o1]
      rcases hs c6 (XTa_step sX) t (a + 1) cX cM (w + 1) base N k1 (by omega) (by omega) (by omega) (by omega) (by omega) (by omega) (by omega) (Or.inr ⟨14, 0, by omega, by omega, by omega, by rw [show w + 1 - 1 = w by omega]; exact o3⟩) x1 o2 with ⟨b, m, V, tX, tM, uM, N', w', c', s1, s2, s3, s4, s5, s6, s7, s8, s9, s10, s11, s12, s13, s14, s15, s16, s17, s18, s19⟩ | ⟨tX, tM, s1, s2, s3, s4, s5, s6⟩
      · have s5 : rec 3 (nI (d + 1)) 0 (XTa_step sX) = some tX := s5
        have h14 : M_hasOpenSum (nI base) tM = some 1 := ho_1 s10 (by omega) base w (by omega) (by omega) (by rw [s14.2.2 w (by omega)]; exact o3)
        obtain ⟨N2, rfl⟩ : ∃ x, N' = x + 1 := ⟨N' - 1, by omega⟩
        have hsg : M_sumSign (t_ch B n b) tM = -1 := by
          rcases l_sgs (t_ch B n b) with ⟨-, q⟩ | ⟨sg, kd, q1, q2, q3, q4, -⟩
          · exact (q tM).2
          · exfalso
            obtain ⟨r1, r2, r3, r4, r5⟩ := s19
            rw [q1] at r1 r2 r3 r4 r5
            unfold l_kd at q2
            rcases q2 with ⟨-, rfl⟩ | ⟨-, rfl⟩ | ⟨-, rfl⟩ | ⟨-, rfl⟩ | ⟨-, rfl⟩ | ⟨rfl, rfl⟩ | ⟨rfl, rfl⟩ | ⟨rfl, rfl⟩
            · exact r1 rfl
            · exact r2 rfl
            · exact r3 rfl
            · exact r4 rfl
            · exact r5 rfl
            · omega
            · omega
            · omega
        by_cases c93 : t_ch B n b = 93
        · have bn : b < n := by
            unfold t_ch at c93
            by_cases e : b < n
            · exact e
            · rw [if_neg e] at c93; exact absurd c93 (by decide)
          obtain ⟨y1, y2⟩ := X_sp s7 (cX + m)
          obtain ⟨z1, z2⟩ := M_cl s16 (cM + m) w
          refine Or.inl ⟨b + 1, m, V, XTa_step tX, _, N2, by omega, by omega, by omega, by omega, ?_, ?_, y1, z1, oX_cg s8 y2 (Nat.le_refl _), oM_cg s17 z2 (Nat.le_refl _), gX_tr x2 (gX_tr s9 y2 (by omega)) (Nat.le_refl _), gM_tr (gM_le o4 (Nat.le_refl _) (Nat.le_refl _)) (gM_tr (gM_le s14 (Nat.le_refl _) (by omega)) (gM_tr (gM_le s18 (Nat.le_refl _) (by omega)) z2 (by omega) (Nat.le_refl _)) (Nat.le_refl _) (Nat.le_refl _)) (Nat.le_refl _) (Nat.le_refl _)⟩
          · have tk : XTa_take 93 tX = some (1, XTa_step tX) := by
              unfold XTa_take
              rw [p_peek s7.1 kn (by omega)]
              simp only [c93, if_true]
              rfl
            rw [s5]
            simp only [tk]
          · rw [s6]
            have h93 : M_sumSign 93 tM = -1 := rfl
            unfold l_FN
            rw [M_readsSum_l14, p_here s10.1 kn (by omega)]
            simp only [c93, h93, if_true, h14, s15, z_10, if_false]
        · obtain ⟨w1, w3, w4⟩ := M_wr 1 b tM
          have kX : t_K tX (XTa_refuseAt 1 (tX.2.1 1 3) tX) := K_ref _ _ _
          refine Or.inr ⟨XTa_refuseAt 1 (tX.2.1 1 3) tX, (M_wrongAt (nI 1) (nI b) tM).2, ?_, ?_, ⟨1, b, by omega, by omega, by omega, ?_, w3⟩, lK_tr x2.1 (lK_tr s9.1 (lK_of kX)), lok_K kX (cX_ok s7 (by omega)), lN_tr o4.1 (lN_tr s14.1 (lN_of w4))⟩
          · have tk : XTa_take 93 tX = some (0, XTa_refuseAt 1 (tX.2.1 1 3) tX) := by
              unfold XTa_take
              rw [p_peek s7.1 kn (by omega)]
              simp only [if_neg c93]
            rw [s5]
            simp only [tk]
          · rw [s6]
            unfold l_FN
            rw [M_readsSum_l14, p_here s10.1 kn (by omega)]
            simp only [hsg, if_true, if_neg c93]
            unfold l_fin
            simp only [h14, z_10, if_false]
            rw [s10.1.2.1]
            rfl
          · rw [s7.1.2.1]; exact X_rf s7.1 1 b
      · have s1 : rec 3 (nI (d + 1)) 0 (XTa_step sX) = some tX := s1
        obtain ⟨v, u, e1, e2⟩ := a_take 93 tX
        refine Or.inr ⟨u, tM, ?_, s2, F_K s3 e2, lK_tr x2.1 (lK_tr s4 (lK_of e2)), lok_K e2 s5, lN_tr o4.1 s6⟩
        rw [s1]
        simp only [e1]
    · have hd6 : d = 6 := by omega
      subst hd6
      obtain ⟨t, o1, o2, o3⟩ := M_op6 hM 14
      rw [if_neg (by decide)]
      refine Or.inr ⟨_, t, rfl, ?_, ⟨5, a, by omega, by omega, by omega, ?_, o2⟩, lK_of (K_ref _ _ _), lok_K (K_ref _ _ _) (cX_ok hX (by omega)), o3⟩
      · unfold l_FF l_rf
        rw [M_readsFactor_l0, p_here hM.1 kn (by omega)]
        simp only [c91, if_true, o1]
        rfl
      · unfold XTa_refuse; rw [hX.1.2.1]; exact X_rf hX.1 5 a
  · have e : l_rf (k1 + 1) sM = l_rs sM := by
      unfold l_rf
      rw [M_readsFactor_l0, p_here hM.1 kn (by omega)]
      simp only [if_neg c91]
    rcases l_rs_ok hB hn ha rec (nI d) c91 hX hM hcX hcM w with ⟨b, V, tX, tM, s1, s2, s3, s4, s5, s6, s7, s8, s9, s10⟩ | ⟨tX, tM, s1, s2, s3, s4, s5, s6⟩
    · refine Or.inl ⟨b, 1, V, tX, tM, N, s1, s2, by omega, by omega, s3, ?_, s5, s6, oX_le s7 hD, oM_le s8 hD, s9, s10⟩
      unfold l_FF
      rw [e, s4]
      rfl
    · refine Or.inr ⟨tX, tM, s1, ?_, s3, s4, s5, s6⟩
      unfold l_FF
      rw [e, s2]
      rfl
