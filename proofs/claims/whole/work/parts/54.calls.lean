/-! the same for both views; the calls personIs, figureIs, printIs, family -/
theorem e_vn {F G : z_V} (h : v_R F G) {i : Nat} (hi : i < 12) (ht : ¬ G 0 i = -1) {k : Nat} (hk : k < 5) : v_n F k i = v_n G k i := v_n_eq (v_R_told h hi ht k hk)
theorem e_tP {F G : z_V} (h : v_R F G) {i j : Nat} (hi : i < 12) (hj : j < 12) (ti : ¬ G 0 i = -1) (tj : ¬ G 0 j = -1) : k_tP F i j ↔ k_tP G i j := by
  unfold k_tP
  rw [e_vn h hi ti (show 1 < 5 by omega), e_vn h hi ti (show 2 < 5 by omega), e_vn h hi ti (show 3 < 5 by omega), e_vn h hi ti (show 4 < 5 by omega), e_vn h hj tj (show 1 < 5 by omega), e_vn h hj tj (show 2 < 5 by omega), e_vn h hj tj (show 3 < 5 by omega), e_vn h hj tj (show 4 < 5 by omega)]
theorem e_all {F G : z_V} (h : v_R F G) (p q : Nat) : k_all F p q ↔ k_all G p q := by
  unfold k_all kt_T
  constructor
  · rintro ⟨a, b, h1, ha, hb, ta, tb, e1, e2, e3, e4⟩
    have ta' : ¬ G 0 a = -1 := by rw [← (h a ha).1]; exact ta
    have tb' : ¬ G 0 b = -1 := by rw [← (h b hb).1]; exact tb
    exact ⟨a, b, h1, ha, hb, ta', tb', by rw [← v_n_eq (h a ha).1]; exact e1, by rw [← v_n_eq (h b hb).1]; exact e2, e3, (e_tP h ha hb ta' tb').mp e4⟩
  · rintro ⟨a, b, h1, ha, hb, ta', tb', e1, e2, e3, e4⟩
    exact ⟨a, b, h1, ha, hb, by rw [(h a ha).1]; exact ta', by rw [(h b hb).1]; exact tb', by rw [v_n_eq (h a ha).1]; exact e1, by rw [v_n_eq (h b hb).1]; exact e2, e3, (e_tP h ha hb ta' tb').mpr e4⟩
theorem e_tb {F G : z_V} (h : v_R F G) (p : Nat) : k_tb F p = k_tb G p := by
  have h1 := k_tb_is (v_R_valX h) p
  exact k_is_eq (F := G) ⟨h1.1, fun q => (h1.2 q).trans (e_all h p q)⟩ (k_tb_is (v_R_val h) p)
theorem e_cm {F G : z_V} (h : v_R F G) {i : Nat} (hi : i < 12) (y : Nat) : v_cm F i y = v_cm G i y := by
  unfold v_cm
  rw [(h i hi).1]
  by_cases t : G 0 i = -1
  · rw [if_pos t, if_pos t]
  · rw [if_neg t, if_neg t, e_vn h hi t (show 1 < 5 by omega), e_vn h hi t (show 2 < 5 by omega), e_vn h hi t (show 3 < 5 by omega), e_vn h hi t (show 4 < 5 by omega)]
theorem z_nor_congr {f g : Nat → Nat} : ∀ n, (∀ i, i < n → f i = g i) → z_nor f n = z_nor g n
  | 0, _ => rfl
  | n + 1, e => by
    rw [z_nor, z_nor, z_nor_congr n (fun i hi => e i (by omega)), e n (by omega)]
theorem e_rm {F G : z_V} (h : v_R F G) (k0 y : Nat) : sn_rm F k0 y = sn_rm G k0 y := z_nor_congr 12 fun i hi => by rw [e_cm h hi]
theorem e_sn {F G : z_V} (h : v_R F G) (k0 : Nat) {i : Nat} (hi : i < 12) : sn_n F k0 i = sn_n G k0 i := fb_sm_cong fun y _ => by
  unfold sn_p
  rw [e_cm h hi, e_rm h]
theorem e_U {F G : z_V} (h : v_R F G) (k : Nat) : sn_U F k = sn_U G k := fb_sm_cong fun y _ => by rw [e_rm h]
theorem e_sl {F G : z_V} (h : v_R F G) {a b : Nat} (ha : a < 5) (hb : b < 5) {most m : Nat} (hm : sl_ok F a b most m) : sl_ok G a b most m := by
  have e : ∀ i k, i < 12 → (sl_in F a b i k ↔ sl_in G a b i k) := fun i k hi => by
    unfold sl_in
    rw [(h i hi).1]
    by_cases t : G 0 i = -1
    · simp [t]
    · rw [e_vn h hi t ha, e_vn h hi t hb]
  exact ⟨hm.1, fun k => (hm.2 k).trans ⟨fun ⟨r1, r2, r3⟩ => ⟨r1, r2, fun i hi q => r3 i hi ((e i k hi).mpr q)⟩, fun ⟨r1, r2, r3⟩ => ⟨r1, r2, fun i hi q => r3 i hi ((e i k hi).mp q)⟩⟩⟩
theorem e_mw {F G : z_V} (h : v_R F G) {i : Nat} (hi : i < 12) (t : ¬ G 0 i = -1) : md_w F i = md_w G i := by
  unfold md_w
  rw [e_vn h hi t (show 1 < 5 by omega), e_vn h hi t (show 2 < 5 by omega), e_vn h hi t (show 3 < 5 by omega), e_vn h hi t (show 4 < 5 by omega)]
theorem e_mr {F G : z_V} (h : v_R F G) : ∀ k, k ≤ 12 → md_r F k = md_r G k
  | 0, _ => rfl
  | k + 1, hk => by
    rw [md_r, md_r, e_mr h k (by omega), (h k (by omega)).1]
    by_cases t : G 0 k = -1
    · rw [if_pos t, if_pos t]
    · rw [if_neg t, if_neg t]
      cases e : md_r G k with
      | none => rfl
      | some b =>
        have hb := md_rt G k b e
        show (if md_w F k < md_w F b then some k else some b) = (if md_w G k < md_w G b then some k else some b)
        rw [e_mw h (by omega) t, e_mw h (by omega) hb.2]
theorem e_mid {F G : z_V} (h : v_R F G) : md_e F (md_r F 12) = md_e G (md_r G 12) := by
  rw [e_mr h 12 (Nat.le_refl _)]
  cases e : md_r G 12 with
  | none => rfl
  | some b => exact (h b (md_rt G 12 b e).1).1
theorem y_scr {s t : ax_S} (h : y_inv s.2.1) (e : ∀ c, c ≠ 56 → c ≠ 58 → t.2.1 c = s.2.1 c) : y_inv t.2.1 := g_inv h fun c j k => by rw [e c (by omega) (by omega)]
theorem c_pb {F G : z_V} (h : v_R F G) : z_or (v_bit F) 12 = z_or (v_bit G) 12 := z_or_congr 12 fun i hi => i_bit h hi
theorem y_pers {s : ax_S} (h : y_inv s.2.1) : ∃ m, m < 65536 ∧ z_or (v_bit (vX s.2.1 5)) 12 = nI m ∧ z_or (v_bit (vM s.2.1 64)) 12 = nI m ∧ ∀ p, m.testBit p = true ↔ ∃ i, i < 12 ∧ ¬ vM s.2.1 64 0 i = -1 ∧ v_n (vM s.2.1 64) 0 i = p := by
  have hR : v_R (vX s.2.1 5) (vM s.2.1 64) := h.1.1
  have hv := v_R_val hR
  refine ⟨z_nor (s_lb (vM s.2.1 64) 0) 12, z_nor_lt 12 fun i hi => s_lb_lt hv hi (by omega), ?_, ?_, fun p => s_lb_tb _ 0 p⟩
  · rw [c_pb hR]
    exact z_orE 12 fun i hi => by
      unfold v_bit s_lb
      rcases hv i hi with c | c
      · rw [if_pos c, if_pos c]; rfl
      · by_cases d : vM s.2.1 64 0 i = -1
        · rw [if_pos d, if_pos d]; rfl
        · rw [if_neg d, if_neg d, c.1, x_shl _ (by omega)]
  · exact z_orE 12 fun i hi => by
      unfold v_bit s_lb
      rcases hv i hi with c | c
      · rw [if_pos c, if_pos c]; rfl
      · by_cases d : vM s.2.1 64 0 i = -1
        · rw [if_pos d, if_pos d]; rfl
        · rw [if_neg d, if_neg d, c.1, x_shl _ (by omega)]
theorem y_meet {s : ax_S} (h : y_inv s.2.1) : ∃ s1, XKi_meet_4 s = some s1 ∧ kc_rw (vM s.2.1 64) s1 ∧ (∀ c, c ≠ 58 → s1.2.1 c = s.2.1 c) ∧ v_aM s1.2.1 (vM s.2.1 64) ∧ y_inv s1.2.1 := by
  have hR : v_R (vX s.2.1 5) (vM s.2.1 64) := h.1.1
  obtain ⟨s1, h1, h2, h3⟩ := X_meet_eq (v_at_vX s.2.1 5) (v_R_valX hR)
  exact ⟨s1, h1, fun p hp => by rw [h2 p hp, e_tb hR], h3, fun k i hk hi => by rw [h3 64 (by omega)]; rfl, y_scr h fun c _ hc => h3 c hc⟩
theorem y_how {s : ax_S} (h : y_inv s.2.1) (x : Int32) : z_sum (g_N (s.2.1 5) x) 12 = z_sum (g_N (s.2.1 64) x) 12 := z_sum_congr 12 fun i hi => by
  unfold g_N
  have e : s.2.1 5 i = s.2.1 64 i := by
    have := (h.1.1 i hi).1
    unfold vX vM at this
    rw [Nat.mul_zero, Nat.zero_add] at this
    exact this
  rw [e]
theorem M_since {s : ax_S} {p : Nat} (hp : p < 16) : M_daysSince (nI p) s = some (if s.2.1 64 (92 + p) = -1 then 99 else M_min 99 (s.2.1 64 289 - s.2.1 64 (92 + p)) s) := by
  unfold M_daysSince
  simp (disch := omega) only [q_92, nI_add, z_cl, z_lt0, z_nle, if_false, or_self]
  split <;> rfl
theorem X_since {s : ax_S} (h : y_inv s.2.1) {p : Nat} (hp : p < 16) : XSt_daysSinceShown_3 (nI p) s = some (if s.2.1 64 (92 + p) = -1 then 99 else M_min 99 (s.2.1 64 289 - s.2.1 64 (92 + p)) s) := by
  obtain ⟨d, x, -, -, e1, e2, -, -, -⟩ := h.1.2.2.2
  have e3 : s.2.1 12 p = s.2.1 64 (92 + p) + 1 := (h.1.2.1 p hp).2.2.2
  unfold XSt_daysSinceShown_3
  rw [if_neg (show ¬ X_isPerson (nI p) s = 0 from z_innX (x := 0) (s := s) 0 15 (by omega) (by omega) (Nat.zero_le _) (by omega))]
  simp (disch := omega) only [z_cl, z_lt0, z_nle, if_false, or_self]
  rw [e3, e1, e2]
  generalize s.2.1 64 (92 + p) = v
  have hz : (v + 1 = 0) = (v = -1) := by
    refine propext ⟨fun q => ?_, fun q => by rw [q]; rfl⟩
    have : v + 1 - 1 = 0 - 1 := by rw [q]
    rw [Int32.add_sub_cancel] at this
    rw [this]; rfl
  simp only [hz]
  by_cases c : v = -1
  · rw [if_pos c, if_pos c]
  · rw [if_neg c, if_neg c]
    have e : nI d - (v + 1) + 1 = nI d - v := by
      rw [Int32.sub_eq_add_neg, Int32.neg_add, Int32.sub_eq_add_neg, ← Int32.add_assoc, Int32.add_assoc (nI d + -v)]
      rw [show (-1 : Int32) + 1 = 0 by decide, Int32.add_zero, Int32.sub_eq_add_neg]
    rw [e]
    unfold M_min
    by_cases c2 : nI d - v < 99
    · rw [if_pos c2, if_pos (Int32.le_of_lt c2)]
    · rw [if_neg c2]
      by_cases c3 : nI d - v ≤ 99
      · rw [if_pos c3, Int32.le_antisymm c3 (Int32.not_lt.mp c2)]
      · rw [if_neg c3]
theorem y_personIs (p w : Int32) (s : ax_S) (h : y_inv s.2.1) : ∃ a s1, X_personIs p w s = some (a, s1) ∧ M_personIs p w s1 = some a ∧ y_inv s1.2.1 := by
  have hR : v_R (vX s.2.1 5) (vM s.2.1 64) := h.1.1
  have hv := v_R_val hR
  rcases z_per p s with ⟨h1, h2⟩ | ⟨h1, h2, n, hn, rfl⟩
  · exact ⟨-1, s, by unfold X_personIs; rw [if_pos h2], by unfold M_personIs; rw [if_pos h1], h⟩
  have a1 : ¬ X_isPerson (nI n) s = 0 := by rw [h2]; decide
  have a2 : ∀ t, ¬ M_isPerson (nI n) t = 0 := fun t => z_innX (x := 0) 0 15 (by omega) (by omega) (Nat.zero_le _) (by omega)
  obtain ⟨b, -, b1, b2⟩ := h.2.2.1
  have hp := h.1.2.1 n hn
  have hpain : XSt_painOf_3 (nI n) s = some (s.2.1 64 (60 + n)) := by
    unfold XSt_painOf_3
    rw [if_neg a1]
    simp (disch := omega) only [z_cl, z_lt0, z_nle, if_false, or_self]
    rw [show s.2.1 10 n = s.2.1 64 (60 + n) from hp.1]
  unfold X_personIs M_personIs
  rw [if_neg a1]
  simp only [a2, if_false]
  by_cases w0 : w = 0
  · refine ⟨_, s, by rw [if_pos w0, hpain], ?_, h⟩
    rw [if_pos w0]
    simp (disch := omega) only [q_60, nI_add, z_cl, z_lt0, z_nle, if_false, or_self]
  by_cases w1 : w = 1
  · refine ⟨if s.2.1 64 (60 + n) ≤ s.2.1 63 3 then 0 else 1, s, ?_, ?_, h⟩
    · rw [if_neg w0, if_pos w1, hpain, b1, b2]
      simp only []
      split <;> rfl
    · rw [if_neg w0, if_pos w1]
      simp (disch := omega) only [q_60, nI_add, z_cl, z_lt0, z_nle, if_false, or_self]
      split <;> rfl
  by_cases w2 : w = 2
  · exact ⟨_, s, by rw [if_neg w0, if_neg w1, if_pos w2, XFi_howManyOf_4_eq], by rw [if_neg w0, if_neg w1, if_pos w2, M_figuresOf_eq, y_how h], h⟩
  by_cases w3 : w = 3
  · refine ⟨s.2.1 64 (76 + n), s, ?_, ?_, h⟩
    · rw [if_neg w0, if_neg w1, if_neg w2, if_pos w3]
      unfold XSt_shownOf_3
      rw [if_neg a1]
      simp (disch := omega) only [z_cl, z_lt0, z_nle, if_false, or_self]
      rw [show s.2.1 11 n = s.2.1 64 (76 + n) from hp.2.2.1]
    · rw [if_neg w0, if_neg w1, if_neg w2, if_pos w3]
      simp (disch := omega) only [q_76, nI_add, z_cl, z_lt0, z_nle, if_false, or_self]
  by_cases w4 : w = 4
  · exact ⟨_, s, by rw [if_neg w0, if_neg w1, if_neg w2, if_neg w3, if_pos w4, X_since h hn], by rw [if_neg w0, if_neg w1, if_neg w2, if_neg w3, if_pos w4, M_since hn], h⟩
  obtain ⟨s1, m1, m2, m3, m4, m5⟩ := y_meet h
  by_cases w5 : w = 5
  · refine ⟨nI (k_tb (vM s.2.1 64) n), s1, ?_, ?_, m5⟩
    · rw [if_neg w0, if_neg w1, if_neg w2, if_neg w3, if_neg w4, if_pos w5, m1]
      simp only []
      unfold XKi_touchedBy
      rw [if_neg (show ¬ X_isPerson (nI n) s1 = 0 from a1)]
      simp (disch := omega) only [z_cl, z_lt0, z_nle, if_false, or_self]
      rw [m2 n hn]
    · rw [if_neg w0, if_neg w1, if_neg w2, if_neg w3, if_neg w4, if_pos w5, M_tb_eq m4 hv hn]
  by_cases w6 : w = 6
  · obtain ⟨A, A1, A2, A3, A4⟩ := y_pers m5
    have e64 : s1.2.1 64 = s.2.1 64 := m3 64 (by omega)
    have eV : vM s1.2.1 64 = vM s.2.1 64 := by unfold vM; simp only [e64]
    rw [eV] at A4
    have hA4 : A.testBit n = true ↔ ¬ z_sum (g_N (s1.2.1 64) (nI n)) 12 = 0 := by
      rw [A4]
      have hs : ∀ k, k ≤ 12 → ∃ c, z_sum (g_N (s1.2.1 64) (nI n)) k = nI c ∧ c ≤ k ∧ (c = 0 ↔ ∀ i, i < k → ¬ s1.2.1 64 i = nI n) := by
        intro k
        induction k with
        | zero => intro _; exact ⟨0, rfl, Nat.le_refl _, ⟨fun _ i hi => absurd hi (Nat.not_lt_zero _), fun _ => rfl⟩⟩
        | succ k ih =>
          intro hk
          obtain ⟨c, c1, c2, c3⟩ := ih (by omega)
          by_cases e : s1.2.1 64 k = nI n
          · refine ⟨c + 1, ?_, by omega, ⟨fun q => by omega, fun q => absurd e (q k (by omega))⟩⟩
            show z_sum _ k + g_N _ _ k = _
            unfold g_N at c1 ⊢
            rw [c1, if_pos e, z_1]
          · refine ⟨c, ?_, by omega, c3.trans ⟨fun q i hi => ?_, fun q i hi => q i (by omega)⟩⟩
            · show z_sum _ k + g_N _ _ k = _
              unfold g_N at c1 ⊢
              rw [c1, if_neg e, Int32.add_zero]
            · rcases Nat.lt_or_eq_of_le (Nat.lt_succ_iff.mp hi) with z | rfl
              · exact q i z
              · exact e
      obtain ⟨c, c1, c2, c3⟩ := hs 12 (Nat.le_refl _)
      rw [c1, z_eq0 (by omega), c3, e64]
      have hM0 : ∀ i, vM s.2.1 64 0 i = s.2.1 64 i := fun i => by unfold vM; rw [Nat.mul_zero, Nat.zero_add]
      constructor
      · rintro ⟨i, hi, t, e⟩ q
        refine q i hi ?_
        rcases hv i hi with d | d
        · exact absurd d t
        · rw [← hM0, d.1, e]
      · intro q
        apply Classical.byContradiction
        intro hn2
        refine q fun i hi e => hn2 ⟨i, hi, ?_, ?_⟩
        · rw [hM0, e, z_nne (by omega)]; exact id
        · unfold v_n; rw [hM0, e, z_cl (by omega)]
    have hX : XFi_persons_4 s1 = some (nI A) := by rw [XFi_persons_4_eq, A2]
    have hM : M_onPrint s1 = some (nI A) := by rw [M_onPrint_eq, A3]
    by_cases c : A.testBit n = true
    · obtain ⟨m, g1, g2⟩ := X_group_eq hv m2 A1 hn c
      obtain ⟨m', g3, g4⟩ := M_kin_eq m4 hv A1 hn
      obtain rfl := kc_uniq g2 g4
      refine ⟨nI m, s1, ?_, ?_, m5⟩
      · rw [if_neg w0, if_neg w1, if_neg w2, if_neg w3, if_neg w4, if_neg w5, if_pos w6, m1]
        simp only [hX, g1]
      · rw [if_neg w0, if_neg w1, if_neg w2, if_neg w3, if_neg w4, if_neg w5, if_pos w6, M_figuresOf_eq]
        simp only []
        rw [if_neg (hA4.mp c), hM]
        simp only [g3]
    · have h0 : z_sum (g_N (s1.2.1 64) (nI n)) 12 = 0 := Classical.byContradiction fun q => c (hA4.mpr q)
      refine ⟨0, s1, ?_, ?_, m5⟩
      · rw [if_neg w0, if_neg w1, if_neg w2, if_neg w3, if_neg w4, if_neg w5, if_pos w6, m1]
        simp only [hX]
        unfold XKi_groupOf
        rw [if_neg (show ¬ X_isPerson (nI n) s1 = 0 from a1), x_shl n (by omega), nx_and]
        have e0 : 2 ^ n &&& A = 0 := by
          rw [Nat.and_comm, fb_bit_nat]
          simpa using c
        rw [e0]
        rfl
      · rw [if_neg w0, if_neg w1, if_neg w2, if_neg w3, if_neg w4, if_neg w5, if_pos w6, M_figuresOf_eq]
        simp only []
        rw [if_pos h0]
  · exact ⟨-1, s, by rw [if_neg w0, if_neg w1, if_neg w2, if_neg w3, if_neg w4, if_neg w5, if_neg w6], by rw [if_neg w0, if_neg w1, if_neg w2, if_neg w3, if_neg w4, if_neg w5, if_neg w6], h⟩
theorem y_printIs (w : Int32) (s : ax_S) (h : y_inv s.2.1) : ∃ a s1, X_printIs w s = some (a, s1) ∧ M_printIs w s1 = some a ∧ y_inv s1.2.1 := by
  have hR : v_R (vX s.2.1 5) (vM s.2.1 64) := h.1.1
  have hv := v_R_val hR
  obtain ⟨A, A1, A2, A3, A4⟩ := y_pers h
  unfold X_printIs M_printIs
  rw [XFi_persons_4_eq, A2]
  simp only []
  by_cases w0 : w = 0
  · obtain ⟨s1, e1, e2⟩ := X_cov_eq (v_at_vX s.2.1 5) (v_R_valX hR)
    refine ⟨_, s1, by rw [if_pos w0, e1], ?_, y_scr h fun c hc _ => e2 c hc⟩
    rw [if_pos w0, M_covc_eq (F := vM s.2.1 64) (fun k i hk hi => by rw [e2 64 (by omega)]; rfl) hv, e_U hR]
  by_cases w1 : w = 1
  · refine ⟨_, s, by rw [if_neg w0, if_pos w1, XFi_bits_4_eq], ?_, h⟩
    rw [if_neg w0, if_pos w1, M_figureSet_eq]
    simp only []
    congr 1
    refine z_or_congr 12 fun i hi => ?_
    unfold g_B
    have e : s.2.1 5 i = s.2.1 64 i := by
      have := (h.1.1 i hi).1
      unfold vX vM at this
      rw [Nat.mul_zero, Nat.zero_add] at this
      exact this
    rw [e]
  by_cases w2 : w = 2
  · exact ⟨_, s, by rw [if_neg w0, if_neg w1, if_pos w2], by rw [if_neg w0, if_neg w1, if_pos w2, M_onPrint_eq, A3], h⟩
  obtain ⟨s1, m1, m2, m3, m4, m5⟩ := y_meet h
  have hM : M_onPrint s1 = some (nI A) := by rw [M_onPrint_eq, show vM s1.2.1 64 = vM s.2.1 64 by unfold vM; simp only [m3 64 (show 64 ≠ 58 by omega)], A3]
  by_cases w3 : w = 3
  · obtain ⟨N, -, g1, g2⟩ := X_M_groups hv m2 m4 A1
    refine ⟨nI N, s1, ?_, ?_, m5⟩
    · rw [if_neg w0, if_neg w1, if_neg w2, if_pos w3, m1]
      simp only [g1]
    · rw [if_neg w0, if_neg w1, if_neg w2, if_pos w3, hM]
      simp only [g2]
  by_cases w4 : w = 4
  · obtain ⟨N, hN, g1, g2⟩ := X_M_groups hv m2 m4 A1
    obtain ⟨a, g3, g4⟩ := X_M_hold hv m2 m4 A1
    refine ⟨a, s1, ?_, ?_, m5⟩
    · rw [if_neg w0, if_neg w1, if_neg w2, if_neg w3, if_pos w4, m1]
      simp only [g3]
    · rw [if_neg w0, if_neg w1, if_neg w2, if_neg w3, if_pos w4]
      unfold M_holders
      rw [hM]
      simp only [g2]
      rw [g4 N g2 hN]
  by_cases w5 : w = 5
  · exact ⟨_, s, by rw [if_neg w0, if_neg w1, if_neg w2, if_neg w3, if_neg w4, if_pos w5, XSt_painfulAbove_3_eq], by rw [if_neg w0, if_neg w1, if_neg w2, if_neg w3, if_neg w4, if_pos w5, M_painfulSet_eq, y_pset h], h⟩
  · exact ⟨-1, s, by rw [if_neg w0, if_neg w1, if_neg w2, if_neg w3, if_neg w4, if_neg w5], by rw [if_neg w0, if_neg w1, if_neg w2, if_neg w3, if_neg w4, if_neg w5], h⟩
theorem X_alone_eq {s : ax_S} {F : z_V} (hr : kc_rw F s) (hv : v_val F) {A : Nat} (hA : A < 65536) : XKi_alone (nI A) s = some (z_or (fun k => if A.testBit k = true ∧ k_tb F k = 0 then (1 : Int32) <<< (nI k &&& 31) else 0) 16) := by
  unfold XKi_alone
  obtain ⟨b, h1, h2⟩ := z_for (fun n k a => XKi_alone_l4 n (nI A) a (nI k) s) 16 (fun k a => a = z_or (fun k => if A.testBit k = true ∧ k_tb F k = 0 then (1 : Int32) <<< (nI k &&& 31) else 0) k) (fun b => b = z_or (fun k => if A.testBit k = true ∧ k_tb F k = 0 then (1 : Int32) <<< (nI k &&& 31) else 0) 16) (fun n a ha => ⟨a, by rw [XKi_alone_l4]; exact if_pos (by decide), ha⟩) (fun n k a hk ha => Or.inr ⟨_, by
      show XKi_alone_l4 (n + 1) (nI A) a (nI k) s = XKi_alone_l4 n (nI A) (a ||| (if A.testBit k = true ∧ k_tb F k = 0 then (1 : Int32) <<< (nI k &&& 31) else 0)) (nI (k + 1)) s
      have hb := (k_tb_is hv k).1
      rw [XKi_alone_l4]
      simp (disch := omega) only [q_16, z_le, z_nle, z_cl, z_lt0, z_1, if_false, or_self]
      rw [hr k hk]
      simp only [x_has (show A < 2147483648 by omega) (show k < 32 by omega), z_eq0 (show k_tb F k < 2147483648 by omega)]
      by_cases c1 : A.testBit k = true <;> by_cases c2 : k_tb F k = 0 <;> simp [c1, c2], by rw [ha]; rfl⟩) 70000 0 0 (by omega) rfl (by omega)
  have h1 : XKi_alone_l4 70000 (nI A) 0 0 s = some b := h1
  rw [h1, h2]
theorem M_alone_eq {s : ax_S} {F : z_V} (ha : v_aM s.2.1 F) (hv : v_val F) {A : Nat} (hA : A < 65536) (hM : M_onPrint s = some (nI A)) : M_aloneSet s = some (z_or (fun k => if A.testBit k = true ∧ k_tb F k = 0 then (1 : Int32) <<< (nI k &&& 31) else 0) 16) := by
  unfold M_aloneSet
  obtain ⟨b, h1, h2⟩ := z_for (fun n k a => M_aloneSet_l4 n a (nI k) s) 16 (fun k a => a = z_or (fun k => if A.testBit k = true ∧ k_tb F k = 0 then (1 : Int32) <<< (nI k &&& 31) else 0) k) (fun b => b = z_or (fun k => if A.testBit k = true ∧ k_tb F k = 0 then (1 : Int32) <<< (nI k &&& 31) else 0) 16) (fun n a ha => ⟨a, by rw [M_aloneSet_l4]; exact if_pos (by decide), ha⟩) (fun n k a hk hI => Or.inr ⟨_, by
      show M_aloneSet_l4 (n + 1) a (nI k) s = M_aloneSet_l4 n (a ||| (if A.testBit k = true ∧ k_tb F k = 0 then (1 : Int32) <<< (nI k &&& 31) else 0)) (nI (k + 1)) s
      have hb := (k_tb_is hv k).1
      rw [M_aloneSet_l4, hM, M_tb_eq ha hv hk]
      simp (disch := omega) only [q_16, z_le, z_nle, z_1, if_false]
      simp only [M_has_eq (show A < 2147483648 by omega) (show k < 32 by omega), z_eq0 (show k_tb F k < 2147483648 by omega)]
      by_cases c1 : A.testBit k = true <;> by_cases c2 : k_tb F k = 0 <;> simp [c1, c2], by rw [hI]; rfl⟩) 70000 0 0 (by omega) rfl (by omega)
  have h1 : M_aloneSet_l4 70000 0 0 s = some b := h1
  rw [h1, h2]
theorem y_family (w : Int32) (s : ax_S) (h : y_inv s.2.1) : ∃ a s1, X_family w s = some (a, s1) ∧ M_family w s1 = some a ∧ y_inv s1.2.1 := by
  have hR : v_R (vX s.2.1 5) (vM s.2.1 64) := h.1.1
  have hv := v_R_val hR
  unfold X_family M_family
  by_cases w0 : w = 0
  · obtain ⟨s1, m1, m2, m3, m4, m5⟩ := y_meet h
    obtain ⟨A, A1, A2, A3, A4⟩ := y_pers m5
    refine ⟨z_or (fun k => if A.testBit k = true ∧ k_tb (vM s.2.1 64) k = 0 then (1 : Int32) <<< (nI k &&& 31) else 0) 16, s1, ?_, ?_, m5⟩
    · rw [if_pos w0, m1]
      simp only []
      rw [XFi_persons_4_eq, A2]
      simp only []
      rw [X_alone_eq m2 hv A1]
    · rw [if_pos w0, M_alone_eq m4 hv A1 (by rw [M_onPrint_eq, A3])]
  by_cases w1 : w = 1
  · refine ⟨md_e (vM s.2.1 64) (md_r (vM s.2.1 64) 12), s, ?_, ?_, h⟩
    · rw [if_neg w0, if_pos w1, X_mid_eq (v_at_vX s.2.1 5) (v_R_valX hR), e_mid hR]
    · rw [if_neg w0, if_pos w1, M_mid_eq (v_aM_vM s.2.1) hv]
  by_cases w2 : w = 2
  · obtain ⟨m, g1, g2⟩ := XFi_straightColumns_4_eq (v_at_vX s.2.1 5) (v_R_valX hR)
    obtain ⟨m', g3, g4⟩ := M_str0 (v_aM_vM s.2.1) hv
    obtain rfl := sl_uniq (e_sl hR (by omega) (by omega) g2) g4
    refine ⟨nI m, s, ?_, ?_, h⟩
    · rw [if_neg w0, if_neg w1, if_pos w2, g1]
    · rw [if_neg w0, if_neg w1, if_pos w2, show M_straight 16 0 s = some (nI m) from g3]
  by_cases w3 : w = 3
  · obtain ⟨m, g1, g2⟩ := XFi_straightRows_4_eq (v_at_vX s.2.1 5) (v_R_valX hR)
    obtain ⟨m', g3, g4⟩ := M_str1 (v_aM_vM s.2.1) hv
    obtain rfl := sl_uniq (e_sl hR (by omega) (by omega) g2) g4
    refine ⟨nI m, s, ?_, ?_, h⟩
    · rw [if_neg w0, if_neg w1, if_neg w2, if_pos w3, g1]
    · rw [if_neg w0, if_neg w1, if_neg w2, if_pos w3, show M_straight 12 1 s = some (nI m) from g3]
  · exact ⟨-1, s, by rw [if_neg w0, if_neg w1, if_neg w2, if_neg w3], by rw [if_neg w0, if_neg w1, if_neg w2, if_neg w3], h⟩
theorem y_figureIs (i w : Int32) (s : ax_S) (h : y_inv s.2.1) : ∃ a s1, X_figureIs i w s = some (a, s1) ∧ M_figureIs i w s1 = some a ∧ y_inv s1.2.1 := by
  have hR : v_R (vX s.2.1 5) (vM s.2.1 64) := h.1.1
  have hv := v_R_val hR
  rcases z_inX (x := i) (s := s) 0 11 (by omega) (by omega) with h1 | ⟨h1, n, -, hn, rfl⟩
  · have h1 : M_in i 0 11 s = 0 := h1
    refine ⟨-1, s, ?_, ?_, h⟩
    · unfold X_figureIs XFi_isTold_4
      unfold M_in at h1
      by_cases c1 : i < 0
      · rw [if_pos c1]; rfl
      · rw [if_neg c1] at h1
        have c2 : (11 : Int32) < i := by
          by_cases c : (11 : Int32) < i
          · exact c
          · rw [if_neg c] at h1; cases h1
        have c3 : (12 : Int32) ≤ i := by
          rw [Int32.le_iff_toInt_le]
          have := Int32.lt_iff_toInt_lt.mp c2
          have e1 : (11 : Int32).toInt = 11 := rfl
          have e2 : (12 : Int32).toInt = 12 := rfl
          omega
        rw [if_neg c1, if_pos c3]; rfl
    · unfold M_figureIs M_isFigure
      rw [if_pos h1]; rfl
  have e5 : s.2.1 5 n = s.2.1 64 n := by
    have := (h.1.1 n (by omega)).1
    unfold vX vM at this
    rw [Nat.mul_zero, Nat.zero_add] at this
    exact this
  have e0 : vM s.2.1 64 0 n = s.2.1 64 n := by unfold vM; rw [Nat.mul_zero, Nat.zero_add]
  unfold X_figureIs M_figureIs
  rw [X_told_eq s n (by omega), e5]
  by_cases t : s.2.1 64 n = -1
  · refine ⟨-1, s, by simp [t], ?_, h⟩
    rw [M_fig_eq s n (by omega), if_pos t]; rfl
  have t0 : ¬ vM s.2.1 64 0 n = -1 := by rw [e0]; exact t
  simp only [t, if_false, z_10]
  by_cases w5 : w = 5
  · obtain ⟨s1, e1, e2⟩ := X_seen_eq (v_at_vX s.2.1 5) (v_R_valX hR) (show n < 12 by omega)
    refine ⟨_, s1, by rw [if_pos w5, e1], ?_, y_scr h fun c hc _ => e2 c hc⟩
    rw [M_fig_eq s1 n (by omega), e2 64 (by omega), if_neg t]
    simp only [z_10, if_false]
    rw [w5, if_neg (show ¬ M_in 5 0 5 s1 = 0 by unfold M_in; decide), if_pos rfl, z_1, M_seen_eq (F := vM s.2.1 64) (fun k i hk hi => by rw [e2 64 (by omega)]; rfl) hv (by omega) t0 (by omega), e_sn hR _ (by omega)]
  · rw [if_neg w5]
    have hP : ∀ k, k < 5 → XFi_part_4 (nI n) (nI k) s = some (s.2.1 64 (12 * k + n)) := fun k hk => by
      unfold XFi_part_4
      rw [X_told_eq s n (by omega), e5, if_neg t]
      simp (disch := omega) only [z_cl, z_lt0, z_nle, if_false, or_self, z_10]
      have hr := v_R_told hR (show n < 12 by omega) t0
      have hk5 : k = 0 ∨ k = 1 ∨ k = 2 ∨ k = 3 ∨ k = 4 := by omega
      rcases hk5 with rfl | rfl | rfl | rfl | rfl
      · rw [if_pos (by decide)]; exact congrArg some (hr 0 (by omega))
      · rw [if_neg (by decide), if_pos (by decide)]; exact congrArg some (hr 1 (by omega))
      · rw [if_neg (by decide), if_neg (by decide), if_pos (by decide)]; exact congrArg some (hr 2 (by omega))
      · rw [if_neg (by decide), if_neg (by decide), if_neg (by decide), if_pos (by decide)]; exact congrArg some (hr 3 (by omega))
      · rw [if_neg (by decide), if_neg (by decide), if_neg (by decide), if_neg (by decide), if_pos (by decide)]; exact congrArg some (hr 4 (by omega))
    rcases z_inX (x := w) (s := s) 0 5 (by omega) (by omega) with h3 | ⟨h3, k, -, hk, rfl⟩
    · have h3 : M_in w 0 5 s = 0 := h3
      refine ⟨-1, s, ?_, ?_, h⟩
      · unfold XFi_part_4
        rw [X_told_eq s n (by omega), e5, if_neg t]
        have hne : ∀ v : Int32, M_in v 0 5 s = 1 → ¬ w = v := fun v hv e => by rw [e, hv] at h3; cases h3
        simp only [if_neg (hne 0 (by unfold M_in; decide)), if_neg (hne 1 (by unfold M_in; decide)), if_neg (hne 2 (by unfold M_in; decide)), if_neg (hne 3 (by unfold M_in; decide)), if_neg (hne 4 (by unfold M_in; decide)), z_10, if_false]
      · rw [M_fig_eq s n (by omega), if_neg t]
        simp only [z_10, if_false]
        rw [if_pos h3]
    · have hk5 : k < 5 := by
        rcases Nat.lt_or_eq_of_le hk with z | rfl
        · exact z
        · exact absurd rfl w5
      refine ⟨s.2.1 64 (12 * k + n), s, by rw [hP k hk5], ?_, h⟩
      rw [M_fig_eq s n (by omega), if_neg t]
      simp only [z_10, if_false]
      rw [if_neg (show ¬ M_in (nI k) 0 5 s = 0 from z_innX (x := 0) (s := s) 0 5 (by omega) (by omega) (Nat.zero_le _) hk), if_neg w5]
      simp (disch := omega) only [q_12, z_0add, pk_mul, nI_add, z_cl, z_lt0, z_nle, if_false, or_self]
