/-! law: whole sums; what waits of conditions -/
theorem sg0_M {v : Int32} (h : l_sg0 v) (s : ax_S) : M_sumSign v s = -1 := by
  obtain ⟨c1, c2, c3, c4, c5⟩ := h
  unfold M_sumSign
  rw [if_neg c1, if_neg c2, if_neg c3, if_neg c4, if_neg c5]
theorem l_tsum {B : Nat → Nat} {n : Nat} {f : ax_S → Option ax_S} {d D : Nat} (hn : n ≤ 240) (hs : l_SUM B n f d D) {sX sM : ax_S} {a cX cM w : Nat} (ha : a ≤ n) (hcX : cX ≤ a) (hcM : cM ≤ a) (hw : w ≤ a) (hl : l_lo sM w) (hX : l_cX B n a cX sX) (hM : l_cM B n a cM w d sM) :
    (∃ b m V tX tM, a < b ∧ b ≤ n ∧ m ≤ b - a ∧ f sX = some tX ∧ M_readsSum sM = some (1, tM) ∧ l_cX B n b (cX + m) tX ∧ l_cM B n b (cM + m) w d tM ∧ l_oX tX cX m V D ∧ l_oM tM cM m V D ∧ l_gX cX sX tX ∧ l_gM cM w sM tM) ∨
    (∃ tX tM, f sX = some tX ∧ M_readsSum sM = some (0, tM) ∧ t_F tX tM ∧ l_K sX tX ∧ l_ok tX ∧ l_N sM tM) := by
  rw [l_rS, hM.2.2.1]
  rcases hs sX sM a cX cM w w 70000 70000 ha hcX hcM hw (Nat.le_refl _) (by omega) (by omega) hl hX hM with ⟨b, m, V, tX, tM, uM, N', w', c', s1, s2, s3, s4, s5, s6, s7, s8, s9, s10, s11, s12, s13, s14, s15, s16, s17, s18, s19⟩ | h
  · obtain ⟨N2, rfl⟩ : ∃ x, N' = x + 1 := ⟨N' - 1, by omega⟩
    have h0 : M_hasOpenSum (nI w) tM = some 0 := ho_0 s10 (by omega) w s11 s13
    refine Or.inl ⟨b, m, V, tX, uM, s1, s2, s3, s5, ?_, s7, s16, s8, s17, s9, gM_tr s14 s18 (Nat.le_refl _) (Nat.le_refl _)⟩
    rw [s6]
    unfold l_FN
    have e : M_readsSum_l14 (N2 + 1) (nI w) tM = some (.inl tM) := by
      rw [M_readsSum_l14, p_here s10.1 (by omega) (by omega)]
      simp only [sg0_M s19, if_true, h0]
      by_cases c : t_ch B n b = 93
      · rw [if_pos c]
      · rw [if_neg c]
    rw [e]
    unfold l_fin
    simp only [h0, if_true, s15]
  · exact Or.inr h
/-- no ! on top -/
def l_ne (s : ax_S) (w : Nat) : Prop := w = 0 ∨ ∃ k p, k ≤ 14 ∧ k ≠ 10 ∧ p < 1048576 ∧ s.2.1 69 (w - 1) = l_cd k p
theorem ep_no {B : Nat → Nat} {n a c w d : Nat} {s : ax_S} (h : l_cM B n a c w d s) (hw : w ≤ 260) (l : l_ne s w) (f : Nat) : M_endsPiece_l0 (f + 1) s = some s := by
  rw [M_endsPiece_l0]
  rcases l with rfl | ⟨k, p, h1, h2, h3, h4⟩
  · rw [M_tp0 h]
    exact if_neg (by decide)
  · by_cases c : w = 0
    · subst c
      rw [M_tp0 h]
      exact if_neg (by decide)
    · obtain ⟨w1, rfl⟩ : ∃ x, w = x + 1 := ⟨w - 1, by omega⟩
      rw [M_tp h (by omega) h1 h3 h4]
      exact if_neg (by rw [q_10, z_eq (by omega) (by omega)]; exact h2)
theorem ep_po {B : Nat → Nat} {n a c w d : Nat} {s : ax_S} (h : l_cM B n a c (w + 1) (d + 1) s) (hw : w < 260) (hc : c < 260) (e : s.2.1 69 w = l_cd 10 0) (f w2 : Nat) :
    ∃ t, M_endsPiece_l0 (f + 1) s = M_endsPiece_l0 f t ∧ l_cM B n a (c + 1) w d t ∧ t.2.1 68 c = l_cd 10 0 ∧ l_gM c w2 s t := by
  obtain ⟨t, a1, a2, a3, a4⟩ := M_nt h hc 10 0 w2
  obtain ⟨b1, b2⟩ := M_po a2 (c + 1) w2
  obtain ⟨d1, d2⟩ := M_de b1 (c + 1) w2
  have e1 : (ax_sI t 63 12 (t.2.1 63 12 - 1)).2.1 63 10 = t.2.1 63 10 := r_one _ _ (by omega)
  rw [e1] at d1 d2
  refine ⟨_, ?_, d1, by rw [d2.2.1 c (by omega), b2.2.1 c (by omega)]; exact a3, gM_tr a4 (gM_tr b2 d2 (Nat.le_refl _) (Nat.le_refl _)) (by omega) (Nat.le_refl _)⟩
  have a1 : M_notes 10 0 s = some t := a1
  rw [M_endsPiece_l0, M_tp h hw (k := 10) (p := 0) (by omega) (by omega) e]
  simp only [a1]
  exact if_pos rfl
/-- no jump on top -/
def l_nj (s : ax_S) (w : Nat) : Prop := w = 0 ∨ ∃ k p, k ≤ 14 ∧ k ≠ 11 ∧ k ≠ 12 ∧ p < 1048576 ∧ s.2.1 69 (w - 1) = l_cd k p
theorem nj_g {s t : ax_S} {w c w2 : Nat} (h : l_nj s w) (g : l_gM c w2 s t) (e : w ≤ w2) : l_nj t w := by
  rcases h with h | ⟨k, p, h1, h2, h3, h4, h5⟩
  · exact Or.inl h
  · by_cases c : w = 0
    · exact Or.inl c
    · exact Or.inr ⟨k, p, h1, h2, h3, h4, by rw [g.2.2 _ (by omega)]; exact h5⟩
theorem ld_no {B : Nat → Nat} {n a c w d : Nat} {s : ax_S} (h : l_cM B n a c w d s) (hw : w ≤ 260) (l : l_nj s w) (x : Int32) (f : Nat) : M_lands_l0 (f + 1) x s = some s := by
  rw [M_lands_l0]
  rcases l with rfl | ⟨k, p, h1, h2, h3, h4, h5⟩
  · rw [M_tp0 h]
    simp only []
    rw [if_neg (by decide)]
    by_cases c : x = 0
    · rw [if_pos c]
    · rw [if_neg c, if_neg (by decide)]
  · by_cases c : w = 0
    · subst c
      rw [M_tp0 h]
      simp only []
      rw [if_neg (by decide)]
      by_cases c : x = 0
      · rw [if_pos c]
      · rw [if_neg c, if_neg (by decide)]
    · obtain ⟨w1, rfl⟩ : ∃ x, w = x + 1 := ⟨w - 1, by omega⟩
      rw [M_tp h (by omega) h1 h4 h5]
      simp only []
      rw [if_neg (by rw [q_11, z_eq (by omega) (by omega)]; exact h2)]
      by_cases c : x = 0
      · rw [if_pos c]
      · rw [if_neg c, if_neg (by rw [q_12, z_eq (by omega) (by omega)]; exact h3)]
theorem ld_st {B : Nat → Nat} {n a c w d p : Nat} {s : ax_S} (h : l_cM B n a c (w + 1) d s) (hw : w < 260) (hp : p < 1048576) (e : s.2.1 69 w = l_cd 12 p) (f : Nat) : M_lands_l0 (f + 1) 0 s = some s := by
  rw [M_lands_l0, M_tp h hw (k := 12) (by omega) hp e]
  simp only []
  rw [if_neg (by decide), if_pos trivial]
theorem ld_po {B : Nat → Nat} {n a c w d p k : Nat} {s : ax_S} (h : l_cM B n a c (w + 1) d s) (hw : w < 260) (hp : p < 260) (hc : c < 260) (x : Int32) (hk : k = 11 ∨ (k = 12 ∧ x ≠ 0)) (e : s.2.1 69 w = l_cd k p) (e2 : s.2.1 68 p = l_cd k 0) (w2 : Nat) :
    ∃ t, (∀ f, M_lands_l0 (f + 1) x s = M_lands_l0 f x t) ∧ l_cM B n a c w d t ∧ t.2.1 68 p = l_cd k c ∧ (∀ q, q ≠ p → t.2.1 68 q = s.2.1 68 q) ∧ l_gM p w2 s t := by
  have k14 : k ≤ 14 := by omega
  obtain ⟨u1, u2⟩ := l_cd1 (k := k) (p := p) k14 (by omega)
  obtain ⟨v1, -⟩ := l_cd1 (k := k) (p := 0) k14 (by omega)
  have e3 : s.2.1 63 12 - 1 = nI w := by rw [h.2.2.1]; exact z_sub (a := w + 1) (b := 1) (by omega)
  have e4 : (1048576 : Int32) * nI k + nI c = l_cd k c := by rw [q_1048576, pk_mul, nI_add]; rfl
  refine ⟨ax_sI (ax_sI s 68 p (l_cd k c)) 63 12 (nI w), fun f => ?_, ⟨⟨?_, ?_, fun q => ?_⟩, ?_, ?_, ?_⟩, ?_, fun q hq => ?_, fun c2 j a1 b1 d1 => ?_, fun q hq => ?_, fun q hq => ?_⟩
  · rw [M_lands_l0, M_tp h hw (k := k) (p := p) k14 (by omega) e]
    simp only [e3, z_cl (a := w) (by omega), if_neg (l_in (k := w) (N := 260) (by omega) (by omega)), e, u2, z_cl (a := p) (by omega), if_neg (l_in (k := p) (N := 260) (by omega) (by omega)), e2, v1, h.2.1, e4]
    have g0 : ¬ (nI w < 0 ∨ 260 ≤ w) := by rintro (y | y); exact nI_pos (by omega) y; omega
    have g1 : ¬ (nI p < 0 ∨ 260 ≤ p) := by rintro (y | y); exact nI_pos (by omega) y; omega
    simp only [if_neg g0, if_neg g1]
    rcases hk with rfl | ⟨rfl, hx⟩
    · rw [if_pos (show nI 11 = 11 from rfl)]
    · rw [if_neg (show ¬ nI 12 = 11 by decide), if_neg hx, if_pos (show nI 12 = 12 from rfl)]
  · rw [r_two _ _ (by omega) (by omega)]; exact h.1.1
  · rw [r_two _ _ (by omega) (by omega)]; exact h.1.2.1
  · rw [r_two _ _ (by omega) (by omega)]; exact h.1.2.2 q
  · rw [r_two _ _ (by omega) (by omega)]; exact h.2.1
  · rw [r_Ie, r_u]
  · rw [r_two _ _ (by omega) (by omega)]; exact h.2.2.2
  · rw [r_I (by omega), r_Ie, r_u]
  · rw [r_two _ _ (by omega) (by omega)]
  · rw [r_two c2 j (by omega) (by omega)]
  · rw [r_two _ _ (by omega) (by omega)]
  · rw [r_two _ _ (by omega) (by omega)]
/-- & and | -/
theorem M_ju {B : Nat → Nat} {n a c w d : Nat} {s : ax_S} (h : l_cM B n a c w d s) (hw : w < 260) (hc : c < 260) (k : Nat) :
    ∃ t, M_jumps (nI k) s = some t ∧ l_cM B n (a + 1) (c + 1) (w + 1) d t ∧ t.2.1 69 w = l_cd k c ∧ t.2.1 68 c = l_cd k 0 ∧ l_gM c w s t := by
  have e4 : (1048576 : Int32) * nI k + s.2.1 63 11 = l_cd k c := by rw [h.2.1, q_1048576, pk_mul, nI_add]; rfl
  obtain ⟨t, a1, a2, a3, a4⟩ := M_pu h hw (l_cd k c) c
  obtain ⟨u, b1, b2, b3, b4⟩ := M_nt a2 hc k 0 (w + 1)
  obtain ⟨d1, d2⟩ := M_sp b2 (c + 1) (w + 1)
  have b1 : M_notes (nI k) 0 t = some u := b1
  refine ⟨_, ?_, d1, by rw [d2.2.2 w (by omega), b4.2.2 w (by omega)]; exact a3, by rw [d2.2.1 c (by omega)]; exact b3, gM_tr a4 (gM_tr b4 d2 (by omega) (by omega)) (Nat.le_refl _) (by omega)⟩
  unfold M_jumps
  rw [if_neg (by rw [h.2.2.1]; exact l_in (k := w) (N := 260) (by omega) (by omega)), e4, a1, b1]
