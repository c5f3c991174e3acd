/-! a whole day, on both sides -/
def d_D3 (f : Nat → Nat → Int32) (bnd : Int32) (s t : ax_S) : Prop := d_W3 f s t ∧ (∀ j w, j < 30 → w < 6 → s.2.1 13 (6 * j + w) = t.2.1 64 (108 + 30 * w + j)) ∧ (∃ d x : Nat, d ≤ 9999 ∧ x ≤ 65535 ∧ s.2.1 3 5 = nI d ∧ t.2.1 64 289 = nI d ∧ t.2.1 64 288 = nI d ∧ s.2.1 3 6 = nI x ∧ t.2.1 64 290 = nI x) ∧ s.2.1 3 7 = t.2.1 63 33 ∧ s.2.1 3 8 = t.2.1 63 34 ∧ s.2.1 3 9 = t.2.1 63 35 ∧ s.2.1 3 10 = t.2.1 63 36 ∧ t.2.1 63 3 = bnd
theorem d_W3_fr {f : Nat → Nat → Int32} {s t s2 t2 : ax_S} (h : d_W3 f s t) (a : ∀ c j, (5 ≤ c ∧ c ≤ 12) ∨ (37 ≤ c ∧ c ≤ 42) ∨ (c = 36 ∧ (j = 7 ∨ j = 8)) → s2.2.1 c j = s.2.1 c j) (b : ∀ c j, (c = 64 ∧ j < 108) ∨ (74 ≤ c ∧ c ≤ 78) ∨ (c = 63 ∧ j = 14) → t2.2.1 c j = t.2.1 c j) : d_W3 f s2 t2 := by
  refine ⟨fun i hi => ?_, fun p hp => ?_, fun c j hc => by rw [a c j (by omega)]; exact h.2.2.1 c j hc, fun c j hc => by rw [b c j (by omega)]; exact h.2.2.2 c j hc⟩
  · have h9 := h.1 i hi
    simp only [v_ok, vX, vM] at h9 ⊢
    rw [a (5 + 0) i (by omega), a (5 + 1) i (by omega), a (5 + 2) i (by omega), a (5 + 3) i (by omega), a (5 + 4) i (by omega), b 64 (12 * 0 + i) (by omega), b 64 (12 * 1 + i) (by omega), b 64 (12 * 2 + i) (by omega), b 64 (12 * 3 + i) (by omega), b 64 (12 * 4 + i) (by omega)]
    exact h9
  · rw [a 10 p (by omega), a 11 p (by omega), a 12 p (by omega), b 64 (60 + p) (by omega), b 64 (76 + p) (by omega), b 64 (92 + p) (by omega)]
    exact h.2.1 p hp
theorem d_day3 {f : Nat → Nat → Int32} (hL : y_law f) {bnd : Int32} {s t : ax_S} (h : d_D3 f bnd s t) (hlt : ¬ 9999 ≤ s.2.1 3 5) :
    ∃ s' t', (∀ n x1 x5, ¬ x1 ≤ x5 → XSt_live_3_36_l23 (n + 1) x1 bnd x5 s = XSt_live_3_36_l23 n x1 bnd (x5 + 1) s') ∧ M_dayGoes t = some t' ∧ d_D3 f bnd s' t' ∧
      (∀ c j, ¬ (10 ≤ c ∧ c ≤ 13) → c ≠ 55 → c ≠ 56 → ¬ (c = 36 ∧ 9 ≤ j ∧ j ≤ 14) → ¬ (c = 3 ∧ 5 ≤ j ∧ j ≤ 10) → s'.2.1 c j = s.2.1 c j) ∧ (∀ c j, c ≠ 64 → c ≠ 79 → c ≠ 80 → ¬ (c = 63 ∧ 29 ≤ j ∧ j ≤ 36) → t'.2.1 c j = t.2.1 c j) := by
  obtain ⟨hW, hA, ⟨d, x, hd, hx, h5, h289, h288, h6, h290⟩, t7, t8, t9, t10, hb⟩ := h
  have hd2 : d < 9999 := by
    rw [h5, q_9999, z_le (by omega) (by omega)] at hlt
    omega
  have e100 : nI d - nI d / 100 * 100 = nI (d % 100) := z_rem (a := d) (d := 100) (by omega) (by omega) (by omega)
  -- the pains
  generalize hS0 : XLa_setDay_36 (nI (d % 100)) s = S0
  have f0 : ∀ c j, ¬ (c = 36 ∧ j = 13) → S0.2.1 c j = s.2.1 c j := fun c j e => by rw [← hS0]; unfold XLa_setDay_36; exact r_one c j e
  have e013 : S0.2.1 36 13 = nI (d % 100) := by rw [← hS0]; unfold XLa_setDay_36; rw [r_Ie, r_u]
  have hW0 : d_W3 f S0 t := d_W3_fr hW (fun c j e => f0 c j (by omega)) (fun _ _ _ => rfl)
  obtain ⟨s1, u6, a1, a2, a3, a4, a5, a6⟩ := d_pain3 hL hd 16 0 S0 t (by omega) hW0 (by rw [f0 _ _ (by omega)]; exact h5) h289 e013 70000 70000 (by omega) (by omega)
  have a1 : XSt_changePain_3_36_l2 70000 0 S0 = some s1 := a1
  have a2 : M_dayGoes_l4 70000 0 0 t = some u6 := a2
  have s1_5 : s1.2.1 3 5 = nI d := by rw [a5 _ _ (by omega) (by omega), f0 _ _ (by omega)]; exact h5
  have u6_289 : u6.2.1 64 289 = nI d := by rw [a6 _ _ (by omega) (by omega) (by omega)]; exact h289
  have u6_3 : u6.2.1 63 3 = bnd := by rw [a6 _ _ (by omega) (by omega) (by omega)]; exact hb
  -- the set
  obtain ⟨xa, s4, u11, b1, b2, b3, b4, b5, b6, b7⟩ := d_set3 hL hd (fun p => u6.2.1 64 (60 + p)) bnd 16 0 s1 u6 0 (by omega) a3 s1_5 u6_289 a4 (fun _ _ => rfl) u6_3 (by omega) 70000 70000 (by omega) (by omega)
  have b1 : XSt_leftOut_3_36_l4 70000 0 0 s1 = some (nI xa, s4) := b1
  have hz0 : z_or (g_A (fun p => u6.2.1 64 (60 + p)) bnd) 0 ||| nI 0 = 0 := by
    show (0 : Int32) ||| 0 = 0
    decide
  rw [hz0] at b2
  have b2 : M_dayGoes_l74 70000 0 0 u6 = some (z_or (g_A (fun p => u6.2.1 64 (60 + p)) bnd) 16 ||| nI xa, u11) := b2
  have hset : z_or (g_A (s1.2.1 10) bnd) 16 = z_or (g_A (fun p => u6.2.1 64 (60 + p)) bnd) 16 := z_or_congr 16 fun i hi => by unfold g_A; rw [(a3.2.1 i hi).1]
  obtain ⟨m, hm1, hm2, -⟩ := g_An (fun p => u6.2.1 64 (60 + p)) bnd
  have hP : m ||| xa < 65536 := x_orlt hm1 b3
  rw [hm2, x_or] at b2
  -- the cut
  have hR : v_R (vX s4.2.1 5) (vM u11.2.1 64) := b4.1
  obtain ⟨s5, x0, y0, w0, h0, c1, c2, c3, c4⟩ := X_cut_eq (v_at_vX s4.2.1 5) (v_R_valX hR) hP
  obtain ⟨u12, x', y', w', h', g1, g2, g3, g4⟩ := M_cut_eq (v_aM_vM u11.2.1) (v_R_val hR) hP
  have hoc : v_oc (vX s4.2.1 5) (m ||| xa) 0 = v_oc (vM u11.2.1 64) (m ||| xa) 0 := funext fun a => funext fun b => propext (v_R_oc hR _ 0 a b)
  rw [hoc] at c3
  obtain ⟨rfl, rfl, rfl, rfl⟩ := ct_uniq c3 g3
  obtain ⟨bx, by0, bw, bh, -⟩ := ct_bnd c3.1
  have hW5 : d_W3 f s5 u12 := d_W3_fr b4 (fun c j e => by rw [c4 c (by omega) (by omega)]) (fun c j e => g4 c j (by omega))
  -- the slip
  have s5_36 : s5.2.1 36 13 = nI (d % 100) := by rw [c4 36 (by omega) (by omega)]; exact b5
  have s5s : ∀ j, s5.2.1 3 j = s.2.1 3 j := fun j => by rw [c4 3 (by omega) (by omega), b6 3 j (by omega), a5 3 j (by omega) (by omega), f0 3 j (by omega)]
  have u12t : ∀ j, ¬ (60 ≤ j ∧ j < 76) → u12.2.1 64 j = t.2.1 64 j := fun j e => by rw [g4 64 j (by omega), b7 64 (by omega) (by omega), a6 64 j (by omega) (by omega) (by omega)]
  obtain ⟨σ, s7, u13, v14, u15, hσ, i1, i2, i3, i4, i5, i6, i7, i8, i9⟩ := d_slip3 hL hW5.2.2.1 hW5.2.2.2 hd hx (by rw [s5s]; exact h6) (by rw [u12t _ (by omega)]; exact h290) (by rw [u12t _ (by omega)]; exact h289) s5_36
  -- the top row
  have hct7 : ct_st s7 x0 y0 w0 h0 := ⟨by rw [i4 _ _ (by omega) (by omega)]; exact c2.1, by rw [i4 _ _ (by omega) (by omega)]; exact c2.2.1, by rw [i4 _ _ (by omega) (by omega)]; exact c2.2.2.1, by rw [i4 _ _ (by omega) (by omega)]; exact c2.2.2.2⟩
  have hl := d_loseX hct7 (by omega) (by omega) hσ 0 0 0
  generalize hS8 : XSt_live_3_36_j84 0 0 0 (nI σ) (nI σ) s7 = s8 at hl
  have hlX := hl.1
  have hlX2 := hl.2
  have e290 : u15.2.1 64 290 = nI x := by rw [i8 64 (by omega) (by omega), u12t _ (by omega)]; exact h290
  obtain ⟨-, sd2⟩ := d_seed x hx
  generalize hU16 : ax_sI u15 64 290 (nI ((25173 * x + 13849) % 65536)) = u16
  have f16 : ∀ c j, ¬ (c = 64 ∧ j = 290) → u16.2.1 c j = u15.2.1 c j := fun c j e => by rw [← hU16]; exact r_one c j e
  have hct16 : ct_sM u16 x0 y0 w0 h0 := ⟨by rw [f16 _ _ (by omega), i8 _ (by omega) (by omega)]; exact g2.1, by rw [f16 _ _ (by omega), i8 _ (by omega) (by omega)]; exact g2.2.1, by rw [f16 _ _ (by omega), i8 _ (by omega) (by omega)]; exact g2.2.2.1, by rw [f16 _ _ (by omega), i8 _ (by omega) (by omega)]; exact g2.2.2.2⟩
  obtain ⟨u17, l1, l2, l3⟩ := d_loseM hct16 (by omega) (by omega) hσ (nI σ)
  -- the cut behind the slip
  have hvr : (x0 = 0 ∧ d_y σ y0 h0 = 0 ∧ w0 = 0 ∧ d_h σ h0 = 0) ∨ (1 ≤ w0 ∧ 1 ≤ d_h σ h0 ∧ w0 ≤ 16 ∧ d_h σ h0 ≤ 12) := by
    unfold d_y d_h
    rcases c3.1 with ⟨r1, r2, r3, r4⟩ | ⟨⟨r1, r2, r3, r4⟩, -⟩
    · refine Or.inl ⟨r1, ?_, r3, ?_⟩
      · rw [if_neg (by omega)]; exact r2
      · rw [if_neg (by omega)]; exact r4
    · refine Or.inr ⟨r1, ?_, by omega, ?_⟩
      · split <;> omega
      · split <;> omega
  generalize d_y σ y0 h0 = y1 at hlX l2 hvr
  generalize d_h σ h0 = h1 at hlX l2 hvr
  have hz : w0 * h1 = 0 → x0 = 0 ∧ y1 = 0 ∧ w0 = 0 ∧ h1 = 0 := fun e => by
    rcases hvr with r | ⟨r1, r2, -, -⟩
    · exact r
    · have := ct_pos r1 r2; omega
  have hw16 : w0 ≤ 16 := bw
  have hh12 : h1 ≤ 12 := by rcases hvr with r | r <;> omega
  have hwz : (w0 * h1 = 0) ↔ w0 = 0 := ⟨fun e => (hz e).2.2.1, fun e => by rw [e, Nat.zero_mul]⟩
  have s8s : ∀ c j, c ≠ 55 → ¬ (c = 3 ∧ (j = 6 ∨ j = 8)) → ¬ (c = 36 ∧ 9 ≤ j ∧ j ≤ 14) → s8.2.1 c j = s5.2.1 c j := fun c j e1 e2 e3 => by rw [hlX2 c j e1, i4 c j e2 e3]
  have u17t : ∀ c j, ¬ (c = 64 ∧ j = 290) → c ≠ 79 → c ≠ 80 → ¬ (c = 63 ∧ 29 ≤ j ∧ j ≤ 32) → u17.2.1 c j = u12.2.1 c j := fun c j e1 e2 e3 e4 => by rw [l3 c j e4, f16 c j e1, i8 c e2 e3]
  have hW8 : d_W3 f s8 u17 := d_W3_fr hW5 (fun c j e => s8s c j (by omega) (by omega) (by omega)) (fun c j e => u17t c j (by omega) (by omega) (by omega) (by omega))
  have hwho : d_who (vX s8.2.1 5) x0 y1 w0 h1 = d_who (vM u17.2.1 64) x0 y1 w0 h1 := by
    unfold d_who
    rw [c_W hW8.1]
  have hj264 : M_dayGoes_j264 (nI σ) (u17.2.1 63 31) u17 = some (d_who (vM u17.2.1 64) x0 y1 w0 h1) := by
    unfold M_dayGoes_j264 d_who
    rw [l2.2.2.1]
    by_cases c : w0 = 0
    · rw [if_pos (by rw [z_eq0 (by omega)]; exact c), if_pos (hwz.mpr c)]
    · rw [if_neg (by rw [z_eq0 (by omega)]; exact c), if_neg (fun e => c (hwz.mp e)), M_whole_eq, l2.1, l2.2.1, l2.2.2.2]
  obtain ⟨s9, p1, p2, p3, p4, p5, p6, p7, p8⟩ := d_pasteX hlX hw16 hh12 hz hσ hd (by rw [s8s _ _ (by omega) (by omega) (by omega), s5s]; exact h5)
  rw [hwho] at p5 p6 p7
  generalize hWW : d_who (vM u17.2.1 64) x0 y1 w0 h1 = WW at p5 p6 p7 hj264
  obtain ⟨u20, q1, q2, q3, q4, q5⟩ := d_remM (σ := σ) WW l2 hd (by rw [u17t _ _ (by omega) (by omega) (by omega) (by omega), u12t _ (by omega)]; exact h288)
  obtain ⟨u21, r1, r2, r3, r4⟩ := d_markM WW (nI σ) u20
  have u21_63 : ∀ j, u21.2.1 63 j = u17.2.1 63 j := fun j => by rw [r4 63 (by omega), q5 63 (by omega)]
  generalize hT : ax_sI (ax_sI (ax_sI (ax_sI (ax_sI u21 63 34 (u21.2.1 63 34 + nI σ)) 63 35 (u21.2.1 63 31 * u21.2.1 63 32)) 63 36 WW) 63 33 (u21.2.1 63 33 + u21.2.1 63 31 * u21.2.1 63 32)) 64 289 (u21.2.1 64 289 + 1) = tF
  have F : ∀ c j, ¬ (c = 63 ∧ 33 ≤ j ∧ j ≤ 36) → ¬ (c = 64 ∧ j = 289) → tF.2.1 c j = u21.2.1 c j := fun c j e1 e2 => by rw [← hT, r_one c j e2, r_two c j (by omega) (by omega), r_two c j (by omega) (by omega)]
  have hcl : u21.2.1 63 31 * u21.2.1 63 32 = nI (w0 * h1) := by rw [u21_63, u21_63, l2.2.2.1, l2.2.2.2, pk_mul]
  have u12m : ∀ c j, c ≠ 64 → c ≠ 79 → c ≠ 80 → ¬ (c = 63 ∧ 29 ≤ j ∧ j ≤ 32) → u12.2.1 c j = t.2.1 c j := fun c j e1 e2 e3 e4 => by rw [g4 c j e4, b7 c e2 e3, a6 c j e2 e3 (by omega)]
  have u17m : ∀ c j, c ≠ 64 → c ≠ 79 → c ≠ 80 → ¬ (c = 63 ∧ 29 ≤ j ∧ j ≤ 32) → u17.2.1 c j = t.2.1 c j := fun c j e1 e2 e3 e4 => by rw [u17t c j (by omega) e2 e3 e4, u12m c j e1 e2 e3 e4]
  have F33 : tF.2.1 63 33 = t.2.1 63 33 + nI (w0 * h1) := by
    rw [← hT, r_I (by omega), r_Ie, r_u, hcl, u21_63, u17m _ _ (by omega) (by omega) (by omega) (by omega)]
  have F34 : tF.2.1 63 34 = t.2.1 63 34 + nI σ := by
    rw [← hT, r_I (by omega)]
    simp (disch := omega) only [r_Ie, r_un, r_u]
    rw [u21_63, u17m _ _ (by omega) (by omega) (by omega) (by omega)]
  have F35 : tF.2.1 63 35 = nI (w0 * h1) := by
    rw [← hT, r_I (by omega)]
    simp (disch := omega) only [r_Ie, r_un, r_u]
    exact hcl
  have F36 : tF.2.1 63 36 = WW := by
    rw [← hT, r_I (by omega)]
    simp (disch := omega) only [r_Ie, r_un, r_u]
  have F289 : tF.2.1 64 289 = nI (d + 1) := by
    rw [← hT, r_Ie, r_u, r3 _ (by omega), q4 _ (by omega), u17t _ _ (by omega) (by omega) (by omega) (by omega), u12t _ (by omega), h289, z_1]
  have q290 : u17.2.1 64 290 = nI ((25173 * x + 13849) % 65536) := by
    rw [l3 _ _ (by omega), ← hU16, r_Ie, r_u]
  refine ⟨s9, tF, fun n x1 x5 hx15 => ?_, ?_, ⟨?_, fun j k hj hk => ?_, ⟨d + 1, (25173 * x + 13849) % 65536, by omega, by omega, p2, F289, ?_, ?_, ?_⟩, ?_, ?_, ?_, ?_, ?_⟩, fun c j e1 e2 e3 e4 e5 => ?_, fun c j e1 e2 e3 e4 => ?_⟩
  · rw [XSt_live_3_36_l23, if_neg hx15, if_neg hlt, h5, e100, hS0]
    unfold XSt_changePain_3_36 XSt_leftOut_3_36
    rw [a1]
    simp only [XSt_painfulAbove_3_eq, b1, hset, hm2, x_or, c1, i1]
    have hj : XSt_live_3_36_j84 x1 bnd x5 (nI σ) (nI σ) s7 = s8 := hS8
    simp only [hj, p1]
  · unfold M_dayGoes
    rw [a2]
    simp only [b2, g1, i5, i6, e100, i7, e290, sd2, hU16, i9, l1, hj264, q1, r1]
    exact congrArg some hT
  · refine ⟨fun i hi => ?_, fun p hp => ?_, fun c j hc => by rw [p8 c j (by omega) (by omega) (by omega) (by omega)]; exact hW8.2.2.1 c j hc, fun c j hc => by rw [F c j (by omega) (by omega), r4 c (by omega), q5 c (by omega)]; exact hW8.2.2.2 c j hc⟩
    · have h9 := hW8.1 i hi
      have a : ∀ k, k < 5 → s9.2.1 (5 + k) i = s8.2.1 (5 + k) i := fun k hk => p8 _ _ (by omega) (by omega) (by omega) (by omega)
      have b : ∀ j, j < 60 → tF.2.1 64 j = u17.2.1 64 j := fun j hj => by rw [F _ _ (by omega) (by omega), r3 _ (by omega), q4 _ (by omega)]
      simp only [v_ok, vX, vM] at h9 ⊢
      rw [a 0 (by omega), a 1 (by omega), a 2 (by omega), a 3 (by omega), a 4 (by omega), b _ (by omega), b (12 * 1 + i) (by omega), b (12 * 2 + i) (by omega), b (12 * 3 + i) (by omega), b (12 * 4 + i) (by omega)]
      exact h9
    · obtain ⟨y1, y2, y3, y4⟩ := hW8.2.1 p hp
      rw [p8 10 p (by omega) (by omega) (by omega) (by omega), F 64 (60 + p) (by omega) (by omega), F 64 (76 + p) (by omega) (by omega), F 64 (92 + p) (by omega) (by omega), r3 (60 + p) (by omega), q4 (60 + p) (by omega)]
      refine ⟨y1, y2, ?_⟩
      have o1 : u20.2.1 64 (76 + p) = u17.2.1 64 (76 + p) := q4 _ (by omega)
      have o2 : u20.2.1 64 (92 + p) = u17.2.1 64 (92 + p) := q4 _ (by omega)
      have o3 : u20.2.1 64 289 = nI d := by rw [q4 _ (by omega), u17t _ _ (by omega) (by omega) (by omega) (by omega), u12t _ (by omega)]; exact h289
      by_cases c : d_bit WW p
      · obtain ⟨m1, m2⟩ := (p7 p hp).1 c
        obtain ⟨m3, m4⟩ := (r2 p hp).1 c
        rw [m1, m2, m3, m4, o1, o3, y3, z_1]
        exact ⟨rfl, rfl⟩
      · obtain ⟨m1, m2⟩ := (p7 p hp).2 c
        obtain ⟨m3, m4⟩ := (r2 p hp).2 c
        rw [m1, m2, m3, m4, o1, o2]
        exact ⟨y3, y4⟩
  · rw [p6 j k hj hk, F _ _ (by omega) (by omega), r3 _ (by omega), q3 j k hj hk]
    by_cases c : j = d % 30
    · rw [if_pos c, if_pos c]
    · rw [if_neg c, if_neg c, s8s _ _ (by omega) (by omega) (by omega), c4 13 (by omega) (by omega), b6 13 _ (by omega), a5 13 _ (by omega) (by omega), f0 13 _ (by omega), u17t _ _ (by omega) (by omega) (by omega) (by omega), u12t _ (by omega)]
      exact hA j k hj hk
  · rw [F _ _ (by omega) (by omega), r3 _ (by omega)]; exact q2
  · rw [p8 3 6 (by omega) (by omega) (by omega) (by omega), hlX2 3 6 (by omega)]; exact i2
  · rw [F _ _ (by omega) (by omega), r3 _ (by omega), q4 _ (by omega)]; exact q290
  · rw [p3, F33, s8s _ _ (by omega) (by omega) (by omega), s5s, t7]
  · rw [F34, p8 3 8 (by omega) (by omega) (by omega) (by omega), hlX2 3 8 (by omega)]
    rw [s5s] at i3
    rw [i3, t8]
  · rw [p4, F35]
  · rw [p5, F36]
  · rw [F _ _ (by omega) (by omega), u21_63, u17m _ _ (by omega) (by omega) (by omega) (by omega)]; exact hb
  · rw [p8 c j (by omega) (by omega) (by omega) (by omega), s8s c j e2 (by omega) e4, c4 c e2 e3, b6 c j e4, a5 c j e4 (by omega), f0 c j (by omega)]
  · rw [F c j (by omega) (by omega), r4 c e1, q5 c e1, u17m c j e1 e2 e3 (by omega)]
