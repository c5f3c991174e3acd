/-! the reference's largest cut -/
def v_ov (F : z_V) (i x y w h : Nat) : Prop := v_n F 1 i < x + w ∧ x < v_n F 1 i + v_n F 3 i ∧ v_n F 2 i < y + h ∧ y < v_n F 2 i + v_n F 4 i
theorem v_cl_ov {F : z_V} (hv : v_val F) {P x y w h : Nat} (hw : 1 ≤ w) (hh : 1 ≤ h) : ct_cl (v_oc F P 0) x y w h ↔ ∀ i, i < 12 → ¬ F 0 i = -1 → P.testBit (v_n F 0 i) = true → ¬ v_ov F i x y w h := by
  constructor
  · intro hc i hi ht hb ⟨o1, o2, o3, o4⟩
    rcases hv i hi with h1 | ⟨-, -, -, -, -, b0, b1, b2, b3, b4⟩
    · exact ht h1
    · refine hc (max x (v_n F 1 i)) (max y (v_n F 2 i)) (by omega) (by omega) (by omega) (by omega) ⟨i, Nat.zero_le _, hi, hb, ht, by omega, by omega, by omega, by omega⟩
  · intro hc x' y' q1 q2 q3 q4 ho
    obtain ⟨i, -, hi, hb, ht, r1, r2, r3, r4⟩ := ho
    exact hc i hi ht hb ⟨by omega, by omega, by omega, by omega⟩
theorem v_in_ov {F : z_V} (hv : v_val F) {i : Nat} (hi : i < 12) (ht : ¬ F 0 i = -1) {x y w h : Nat} (hx : x + w ≤ 100) (hy : y + h ≤ 100) : (v_in F i (nI x) (nI y) (nI w) (nI h) = 0) = ¬ v_ov F i x y w h := by
  rcases hv i hi with h1 | ⟨g0, g1, g2, g3, g4, b0, b1, b2, b3, b4⟩
  · exact absurd h1 ht
  · unfold v_in v_ov
    rw [g1, g2, g3, g4]
    simp (disch := omega) only [nI_add, z_le]
    by_cases c1 : x + w ≤ v_n F 1 i <;> by_cases c2 : v_n F 1 i + v_n F 3 i ≤ x <;> by_cases c3 : y + h ≤ v_n F 2 i <;> by_cases c4 : v_n F 2 i + v_n F 4 i ≤ y <;> simp [c1, c2, c3, c4] <;> omega
theorem v_aM_eq {f : Nat → Nat → Int32} {F : z_V} (ha : v_aM f F) {i : Nat} (hi : i < 12) (x y w h : Int32) : v_in (vM f 64) i x y w h = v_in F i x y w h := by
  unfold v_in vM
  rw [ha 1 i (by omega) hi, ha 2 i (by omega) hi, ha 3 i (by omega) hi, ha 4 i (by omega) hi]
theorem M_has_eq {P p : Nat} (hP : P < 2147483648) (hp : p < 32) (s : ax_S) : (M_has (nI P) (nI p) s = 0) = (P.testBit p = false) := by
  unfold M_has
  simp only [x_has hP hp]
  by_cases h : P.testBit p = true <;> simp [h]
theorem M_isClear_eq {s : ax_S} {F : z_V} (ha : v_aM s.2.1 F) (hv : v_val F) {P x y w h : Nat} (hP : P < 65536) (hw : 1 ≤ w) (hh : 1 ≤ h) (hx : x + w ≤ 100) (hy : y + h ≤ 100) : ∃ v : Int32, M_isClear (nI P) (nI x) (nI y) (nI w) (nI h) s = some v ∧ ((v = 1 ∧ ct_cl (v_oc F P 0) x y w h) ∨ (v = 0 ∧ ¬ ct_cl (v_oc F P 0) x y w h)) := by
  unfold M_isClear
  rw [v_cl_ov hv hw hh]
  obtain ⟨b, h1, h2⟩ := z_for (fun n k (_ : Unit) => M_isClear_l3 n (nI P) (nI x) (nI y) (nI w) (nI h) (nI k) s) 12 (fun k _ => ∀ i, i < k → ¬ F 0 i = -1 → P.testBit (v_n F 0 i) = true → ¬ v_ov F i x y w h) (fun v => (v = 1 ∧ ∀ i, i < 12 → ¬ F 0 i = -1 → P.testBit (v_n F 0 i) = true → ¬ v_ov F i x y w h) ∨ (v = 0 ∧ ¬ ∀ i, i < 12 → ¬ F 0 i = -1 → P.testBit (v_n F 0 i) = true → ¬ v_ov F i x y w h)) (fun n a ha => ⟨1, by
      show M_isClear_l3 (n + 1) (nI P) (nI x) (nI y) (nI w) (nI h) (nI 12) s = some 1
      rw [M_isClear_l3]
      exact if_pos (by decide), Or.inl ⟨rfl, ha⟩⟩) (fun n k _ hk hI => by
      show (∃ b, M_isClear_l3 (n + 1) (nI P) (nI x) (nI y) (nI w) (nI h) (nI k) s = some b ∧ _) ∨ ∃ _ : Unit, M_isClear_l3 (n + 1) (nI P) (nI x) (nI y) (nI w) (nI h) (nI k) s = M_isClear_l3 n (nI P) (nI x) (nI y) (nI w) (nI h) (nI (k + 1)) s ∧ _
      have e0 : s.2.1 64 k = F 0 k := by have := ha 0 k (by omega) hk; rwa [Nat.mul_zero, Nat.zero_add] at this
      rw [M_isClear_l3, M_fig_eq s k hk, M_isIn_eq s k hk, v_aM_eq ha hk, e0]
      simp (disch := omega) only [q_12, z_le, z_nle, z_0add, z_cl, z_lt0, z_1, if_false, or_self]
      rw [e0]
      by_cases hF : F 0 k = -1
      · refine Or.inr ⟨(), by simp [hF], fun i hi ht => ?_⟩
        rcases Nat.lt_or_eq_of_le (Nat.lt_succ_iff.mp hi) with q | rfl
        · exact hI i q ht
        · exact absurd hF ht
      · simp only [hF, if_false, z_10]
        have e1 : F 0 k = nI (v_n F 0 k) ∧ v_n F 0 k < 16 := by
          rcases hv k hk with c | c
          · exact absurd c hF
          · exact ⟨c.1, c.2.2.2.2.2.1⟩
        have e2 := M_has_eq (P := P) (p := v_n F 0 k) (by omega) (by omega) s
        rw [← e1.1] at e2
        have e3 := v_in_ov hv hk hF hx hy
        simp only [e2]
        by_cases hb : P.testBit (v_n F 0 k) = false
        · refine Or.inr ⟨(), by rw [if_pos hb], fun i hi ht hb2 => ?_⟩
          rcases Nat.lt_or_eq_of_le (Nat.lt_succ_iff.mp hi) with q | rfl
          · exact hI i q ht hb2
          · rw [hb] at hb2; cases hb2
        · rw [if_neg hb]
          by_cases ho : v_ov F k x y w h
          · exact Or.inl ⟨0, by rw [if_neg (by rw [e3]; exact not_not_intro ho)], Or.inr ⟨rfl, fun q => q k hk hF (by simpa using hb) ho⟩⟩
          · refine Or.inr ⟨(), by rw [if_pos (by rw [e3]; exact ho)], fun i hi ht hb2 => ?_⟩
            rcases Nat.lt_or_eq_of_le (Nat.lt_succ_iff.mp hi) with q | rfl
            · exact hI i q ht hb2
            · exact ho) 70000 0 () (by omega) (fun i hi => absurd hi (Nat.not_lt_zero _)) (by omega)
  have h1 : M_isClear_l3 70000 (nI P) (nI x) (nI y) (nI w) (nI h) 0 s = some b := h1
  simp only [h1]
  exact ⟨b, rfl, h2⟩
def ct_sM (s : ax_S) (x y w h : Nat) : Prop := s.2.1 63 29 = nI x ∧ s.2.1 63 30 = nI y ∧ s.2.1 63 31 = nI w ∧ s.2.1 63 32 = nI h
abbrev ct_fM (s t : ax_S) : Prop := ∀ c j, ¬ (c = 63 ∧ 29 ≤ j ∧ j ≤ 32) → t.2.1 c j = s.2.1 c j
theorem ct_lay (x y w h : Nat) (s : ax_S) : ct_sM (M_laysCut (nI x) (nI y) (nI w) (nI h) s) x y w h ∧ ct_fM s (M_laysCut (nI x) (nI y) (nI w) (nI h) s) := by
  unfold M_laysCut
  refine ⟨⟨?_, ?_, ?_, ?_⟩, fun c j hc => ?_⟩
  · simp (disch := omega) only [r_Ie, r_u, r_un, r_I]
  · simp (disch := omega) only [r_Ie, r_u, r_un, r_I]
  · simp (disch := omega) only [r_Ie, r_u, r_un, r_I]
  · simp (disch := omega) only [r_Ie, r_u, r_un, r_I]
  · rw [r_two c j (by omega) (by omega), r_two c j (by omega) (by omega)]
theorem v_aM_fr {s t : ax_S} {F : z_V} (ha : v_aM s.2.1 F) (e : ct_fM s t) : v_aM t.2.1 F := fun k i hk hi => by
  rw [e 64 _ (by omega)]
  exact ha k i hk hi
def ct_pr (t l w x' y' w' : Nat) : Prop := y' < t ∨ (y' = t ∧ (x' < l ∨ (x' = l ∧ w < w')))
def ct_mi (oc : Nat → Nat → Prop) (s0 : ax_S) (t l w : Nat) (s : ax_S) : Prop := ∃ x y w' h', ct_sM s x y w' h' ∧ ct_ok oc x y w' h' ∧ ((w' = 0 ∧ h' = 0) ∨ ct_pr t l w x y w') ∧ (∀ x2 y2 w2 h2, ct_vr x2 y2 w2 h2 → ct_cl oc x2 y2 w2 h2 → ct_pr t l w x2 y2 w2 → ct_ky x2 y2 w2 h2 ≤ ct_ky x y w' h') ∧ ct_fM s0 s
theorem M_high {s : ax_S} {F : z_V} (ha : v_aM s.2.1 F) (hv : v_val F) {P t l w bx bY bw bh : Nat} (hP : P < 65536) (hs : ct_sM s bx bY bw bh) (hb : bw * bh ≤ 192) (hw : 1 ≤ w) (hl : l + w ≤ 16) (ht : t < 12) : ∃ h, M_cutsWithout_l41 70000 (nI P) (nI t) (nI l) (nI w) (nI (12 - t)) s = some (nI h) ∧ h ≤ 12 - t ∧ (∀ h', h < h' → t + h' ≤ 12 → ¬ ct_cl (v_oc F P 0) l t w h') ∧ (w * h ≤ bw * bh ∨ (1 ≤ h ∧ ct_cl (v_oc F P 0) l t w h)) := by
  obtain ⟨b, h1, h2⟩ := z_while (fun n (h : Nat) => M_cutsWithout_l41 n (nI P) (nI t) (nI l) (nI w) (nI h) s) (fun h => h ≤ 12 - t ∧ (∀ h', h < h' → t + h' ≤ 12 → ¬ ct_cl (v_oc F P 0) l t w h')) (fun h => h) (fun v => ∃ h, v = nI h ∧ h ≤ 12 - t ∧ (∀ h', h < h' → t + h' ≤ 12 → ¬ ct_cl (v_oc F P 0) l t w h') ∧ (w * h ≤ bw * bh ∨ (1 ≤ h ∧ ct_cl (v_oc F P 0) l t w h))) (fun n h hI => by
      show (∃ b, M_cutsWithout_l41 (n + 1) (nI P) (nI t) (nI l) (nI w) (nI h) s = some b ∧ _) ∨ ∃ h', M_cutsWithout_l41 (n + 1) (nI P) (nI t) (nI l) (nI w) (nI h) s = M_cutsWithout_l41 n (nI P) (nI t) (nI l) (nI w) (nI h') s ∧ _
      have hm : w * h ≤ 192 := ct_mul (by omega) (by omega)
      rw [M_cutsWithout_l41, hs.2.2.1, hs.2.2.2, pk_mul, pk_mul]
      simp only [z_le0 (show h < 2147483648 by omega), z_le (show w * h < 2147483648 by omega) (show bw * bh < 2147483648 by omega)]
      by_cases c1 : h = 0
      · exact Or.inl ⟨nI h, by rw [if_pos c1], h, rfl, hI.1, hI.2, Or.inl (by subst c1; omega)⟩
      · rw [if_neg c1]
        by_cases c2 : w * h ≤ bw * bh
        · exact Or.inl ⟨nI h, by rw [if_pos c2], h, rfl, hI.1, hI.2, Or.inl c2⟩
        · rw [if_neg c2]
          obtain ⟨v, g1, g2⟩ := M_isClear_eq ha hv (x := l) (y := t) (w := w) (h := h) hP hw (by omega) (by omega) (by omega)
          rw [g1]
          rcases g2 with ⟨rfl, g3⟩ | ⟨rfl, g3⟩
          · exact Or.inl ⟨nI h, by simp, h, rfl, hI.1, hI.2, Or.inr ⟨by omega, g3⟩⟩
          · refine Or.inr ⟨h - 1, ?_, ⟨by omega, fun h' q1 q2 => ?_⟩, by omega⟩
            · simp only [if_true]
              rw [show (1 : Int32) = nI 1 from rfl, z_sub (by omega)]
            · by_cases e : h' = h
              · subst e; exact g3
              · exact hI.2 h' (by omega) q2) 70000 (12 - t) ⟨Nat.le_refl _, fun h' q1 q2 => by omega⟩ (by omega)
  obtain ⟨h, rfl, h3⟩ := h2
  exact ⟨h, h1, h3⟩
theorem M_wides {s0 s : ax_S} {F : z_V} (ha : v_aM s0.2.1 F) (hv : v_val F) {P t l : Nat} (hP : P < 65536) (hl : l < 16) (ht : t < 12) (hI : ct_mi (v_oc F P 0) s0 t l (16 - l) s) : ∃ s', M_cutsWithout_l30 70000 (nI P) (nI t) (nI l) (nI (16 - l)) s = some s' ∧ ct_mi (v_oc F P 0) s0 t l 0 s' := by
  obtain ⟨b, h1, h2⟩ := z_while (fun n (a : Nat × ax_S) => M_cutsWithout_l30 n (nI P) (nI t) (nI l) (nI a.1) a.2) (fun a => a.1 ≤ 16 - l ∧ ct_mi (v_oc F P 0) s0 t l a.1 a.2) (fun a => a.1) (fun s' => ct_mi (v_oc F P 0) s0 t l 0 s') (fun n a hI => by
      obtain ⟨w, s⟩ := a
      obtain ⟨hw, x, y, bw, bh, i1, i2, i3, i4, i5⟩ := hI
      dsimp only at hw i1 i3 i4 i5
      obtain ⟨B1, B2, B3, B4, B5⟩ := ct_bnd i2
      show (∃ b, M_cutsWithout_l30 (n + 1) (nI P) (nI t) (nI l) (nI w) s = some b ∧ _) ∨ ∃ a' : Nat × ax_S, M_cutsWithout_l30 (n + 1) (nI P) (nI t) (nI l) (nI w) s = M_cutsWithout_l30 n (nI P) (nI t) (nI l) (nI a'.1) a'.2 ∧ _
      rw [M_cutsWithout_l30]
      simp only [z_le0 (show w < 2147483648 by omega)]
      by_cases c1 : w = 0
      · subst c1
        exact Or.inl ⟨s, by simp, x, y, bw, bh, i1, i2, i3, i4, i5⟩
      · rw [if_neg c1]
        obtain ⟨h, g1, g2, g3, g4⟩ := M_high (v_aM_fr ha i5) hv (l := l) (w := w) (t := t) hP i1 B5 (by omega) (by omega) ht
        have hm : w * h ≤ 192 := ct_mul (by omega) (by omega)
        have e12 : (12 : Int32) - nI t = nI (12 - t) := by rw [q_12, z_sub (by omega)]
        have em : nI w + Int32.ofInt (-1) = nI (w - 1) := z_m1 (by omega)
        rw [e12, g1]
        simp only [em]
        rw [i1.2.2.1, i1.2.2.2, pk_mul, pk_mul]
        simp only [z_le (show w * h < 2147483648 by omega) (show bw * bh < 2147483648 by omega)]
        by_cases c2 : w * h ≤ bw * bh
        · refine Or.inr ⟨(w - 1, s), by rw [if_pos c2], ⟨by show w - 1 ≤ 16 - l; omega, x, y, bw, bh, i1, i2, ?_, fun x2 y2 w2 h2 v c p => ?_, i5⟩, by show w - 1 < w; omega⟩
          · rcases i3 with q | q
            · exact Or.inl q
            · unfold ct_pr at q ⊢
              exact Or.inr (by dsimp only; omega)
          · by_cases e : ct_pr t l w x2 y2 w2
            · exact i4 x2 y2 w2 h2 v c e
            · have e2 : y2 = t ∧ x2 = l ∧ w2 = w := by
                unfold ct_pr at e p
                dsimp only at p
                omega
              obtain ⟨rfl, rfl, rfl⟩ := e2
              have hh : h2 ≤ h := by
                rcases Nat.lt_or_ge h h2 with q | q
                · exact absurd c (g3 h2 q v.2.2.2)
                · exact q
              have hmul : w2 * h2 ≤ w2 * h := Nat.mul_le_mul_left w2 hh
              have hp := ct_pos v.1 v.2.1
              rcases i3 with ⟨q1, q2⟩ | q
              · subst q1; rw [Nat.zero_mul] at c2; omega
              · unfold ct_pr at q
                unfold ct_ky
                omega
        · have hc : 1 ≤ h ∧ ct_cl (v_oc F P 0) l t w h := by
            rcases g4 with q | q
            · exact absurd q c2
            · exact q
          obtain ⟨p1, p2⟩ := ct_lay l t w h s
          have hv2 : ct_vr l t w h := ⟨by omega, hc.1, by omega, by omega⟩
          refine Or.inr ⟨(w - 1, M_laysCut (nI l) (nI t) (nI w) (nI h) s), by rw [if_neg c2], ⟨by show w - 1 ≤ 16 - l; omega, l, t, w, h, p1, Or.inr ⟨hv2, hc.2⟩, Or.inr (Or.inr ⟨rfl, Or.inr ⟨rfl, by show w - 1 < w; omega⟩⟩), fun x2 y2 w2 h2 v c p => ?_, fun c j q => by rw [p2 c j q]; exact i5 c j q⟩, by show w - 1 < w; omega⟩
          by_cases e : ct_pr t l w x2 y2 w2
          · have := i4 x2 y2 w2 h2 v c e
            refine Nat.le_trans this ?_
            unfold ct_ky
            omega
          · have e2 : y2 = t ∧ x2 = l ∧ w2 = w := by
              unfold ct_pr at e p
              dsimp only at p
              omega
            obtain ⟨rfl, rfl, rfl⟩ := e2
            have hh : h2 ≤ h := by
              rcases Nat.lt_or_ge h h2 with q | q
              · exact absurd c (g3 h2 q v.2.2.2)
              · exact q
            have hmul : w2 * h2 ≤ w2 * h := Nat.mul_le_mul_left w2 hh
            unfold ct_ky
            omega) 70000 (16 - l, s) ⟨Nat.le_refl _, hI⟩ (by show 16 - l < 70000; omega)
  exact ⟨b, h1, h2⟩
theorem M_lefts {s0 s : ax_S} {F : z_V} (ha : v_aM s0.2.1 F) (hv : v_val F) {P t : Nat} (hP : P < 65536) (ht : t < 12) (hI : ct_mi (v_oc F P 0) s0 t 0 16 s) : ∃ s', M_cutsWithout_l18 70000 (nI P) (nI t) 0 s = some s' ∧ ct_mi (v_oc F P 0) s0 (t + 1) 0 16 s' := by
  obtain ⟨b, h1, h2⟩ := z_for (fun n k (a : ax_S) => M_cutsWithout_l18 n (nI P) (nI t) (nI k) a) 16 (fun k a => ct_mi (v_oc F P 0) s0 t k (16 - k) a) (fun a => ct_mi (v_oc F P 0) s0 (t + 1) 0 16 a) (fun n a ha => ⟨a, by
      show M_cutsWithout_l18 (n + 1) (nI P) (nI t) (nI 16) a = some a
      rw [M_cutsWithout_l18]
      exact if_pos (by decide), by
      obtain ⟨x, y, w', h', i1, i2, i3, i4, i5⟩ := ha
      obtain ⟨B1, B2, B3, B4, B5⟩ := ct_bnd i2
      refine ⟨x, y, w', h', i1, i2, ?_, fun x2 y2 w2 h2 v c p => i4 x2 y2 w2 h2 v c ?_, i5⟩
      · unfold ct_pr at i3 ⊢; omega
      · unfold ct_pr at p ⊢; unfold ct_vr at v; omega⟩) (fun n k a hk hI => Or.inr (by
      obtain ⟨s', g1, x, y, w', h', i1, i2, i3, i4, i5⟩ := M_wides ha hv hP hk ht hI
      obtain ⟨B1, B2, B3, B4, B5⟩ := ct_bnd i2
      refine ⟨s', ?_, x, y, w', h', i1, i2, ?_, fun x2 y2 w2 h2 v c p => i4 x2 y2 w2 h2 v c ?_, i5⟩
      · show M_cutsWithout_l18 (n + 1) (nI P) (nI t) (nI k) a = M_cutsWithout_l18 n (nI P) (nI t) (nI (k + 1)) s'
        rw [M_cutsWithout_l18]
        simp (disch := omega) only [q_16, z_le, z_nle, z_sub, z_1, if_false]
        rw [g1]
      · unfold ct_pr at i3 ⊢; omega
      · unfold ct_pr at p ⊢; unfold ct_vr at v; omega)) 70000 0 s (by omega) hI (by omega)
  exact ⟨b, h1, h2⟩
theorem M_cut_eq {s : ax_S} {F : z_V} (ha : v_aM s.2.1 F) (hv : v_val F) {P : Nat} (hP : P < 65536) :
    ∃ s' x y w h, M_cutsWithout (nI P) s = some s' ∧ ct_sM s' x y w h ∧ ct_best (v_oc F P 0) x y w h ∧ ct_fM s s' := by
  unfold M_cutsWithout
  obtain ⟨p1, p2⟩ := ct_lay 0 0 0 0 s
  obtain ⟨b, h1, h2⟩ := z_for (fun n k (a : ax_S) => M_cutsWithout_l10 n (nI P) (nI k) a) 12 (fun k a => ct_mi (v_oc F P 0) s k 0 16 a) (fun a => ∃ x y w h, ct_sM a x y w h ∧ ct_best (v_oc F P 0) x y w h ∧ ct_fM s a) (fun n a ha => ⟨a, by
      show M_cutsWithout_l10 (n + 1) (nI P) (nI 12) a = some a
      rw [M_cutsWithout_l10]
      exact if_pos (by decide), by
      obtain ⟨x, y, w', h', i1, i2, i3, i4, i5⟩ := ha
      exact ⟨x, y, w', h', i1, ⟨i2, fun x2 y2 w2 h2 v c => i4 x2 y2 w2 h2 v c (Or.inl (by unfold ct_vr at v; omega))⟩, i5⟩⟩) (fun n k a hk hI => Or.inr (by
      obtain ⟨s', g1, g2⟩ := M_lefts ha hv hP hk hI
      refine ⟨s', ?_, g2⟩
      show M_cutsWithout_l10 (n + 1) (nI P) (nI k) a = M_cutsWithout_l10 n (nI P) (nI (k + 1)) s'
      rw [M_cutsWithout_l10]
      simp (disch := omega) only [q_12, z_le, z_nle, z_1, if_false]
      rw [g1])) 70000 0 (M_laysCut (nI 0) (nI 0) (nI 0) (nI 0) s) (by omega) ⟨0, 0, 0, 0, p1, Or.inl ⟨rfl, rfl, rfl, rfl⟩, Or.inl ⟨rfl, rfl⟩, fun x2 y2 w2 h2 v c p => by unfold ct_pr at p; unfold ct_vr at v; omega, p2⟩ (by omega)
  have h1 : M_cutsWithout_l10 70000 (nI P) 0 (M_laysCut 0 0 0 0 s) = some b := h1
  obtain ⟨x, y, w, h, h3⟩ := h2
  simp only [h1]
  exact ⟨b, x, y, w, h, rfl, h3⟩
