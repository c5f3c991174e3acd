/-! the smallest rectangle -/
def z_nor (b : Nat → Nat) : Nat → Nat
  | 0 => 0
  | n + 1 => z_nor b n ||| b n
theorem z_orE {g : Nat → Int32} {b : Nat → Nat} : ∀ n, (∀ i, i < n → g i = nI (b i)) → z_or g n = nI (z_nor b n)
  | 0, _ => rfl
  | n + 1, h => by
    show z_or g n ||| g n = nI (z_nor b n ||| b n)
    rw [z_orE n fun i hi => h i (by omega), h n (by omega), x_or]
theorem z_nor_lt {b : Nat → Nat} : ∀ n, (∀ i, i < n → b i < 65536) → z_nor b n < 65536
  | 0, _ => by show 0 < 65536; omega
  | n + 1, h => x_orlt (z_nor_lt n fun i hi => h i (by omega)) (h n (by omega))
theorem z_nor_tb {b : Nat → Nat} (k : Nat) : ∀ n, (z_nor b n).testBit k = true ↔ ∃ i, i < n ∧ (b i).testBit k = true
  | 0 => by simp [z_nor]
  | n + 1 => by
    rw [z_nor, Nat.testBit_or, Bool.or_eq_true, z_nor_tb k n]
    constructor
    · rintro (⟨i, hi, e⟩ | e)
      · exact ⟨i, by omega, e⟩
      · exact ⟨n, by omega, e⟩
    · rintro ⟨i, hi, e⟩
      rcases Nat.lt_or_eq_of_le (Nat.lt_succ_iff.mp hi) with h6 | rfl
      · exact Or.inl ⟨i, h6, e⟩
      · exact Or.inr e
def s_in (F : z_V) (i x y w h : Nat) : Prop := ¬ F 0 i = -1 ∧ x ≤ v_n F 1 i ∧ v_n F 1 i + v_n F 3 i ≤ x + w ∧ y ≤ v_n F 2 i ∧ v_n F 2 i + v_n F 4 i ≤ y + h
def s_wb (F : z_V) (x y w h i : Nat) : Nat := if F 0 i = -1 then 0 else if x ≤ v_n F 1 i ∧ v_n F 1 i + v_n F 3 i ≤ x + w ∧ y ≤ v_n F 2 i ∧ v_n F 2 i + v_n F 4 i ≤ y + h then 2 ^ v_n F 0 i else 0
def s_wm (F : z_V) (x y w h : Nat) : Nat := z_nor (s_wb F x y w h) 12
theorem s_gW {F : z_V} (hv : v_val F) {x y w h : Nat} (hx : x + w ≤ 100) (hy : y + h ≤ 100) : z_or (g_W F (nI x) (nI y) (nI w) (nI h)) 12 = nI (s_wm F x y w h) := z_orE 12 fun i hi => by
  unfold g_W s_wb
  rcases hv i hi with h1 | ⟨g0, g1, g2, g3, g4, b0, b1, b2, b3, b4⟩
  · rw [if_pos h1, if_pos h1]; rfl
  · by_cases ht : F 0 i = -1
    · rw [if_pos ht, if_pos ht]; rfl
    · rw [if_neg ht, if_neg ht]
      have e1 : (v_wh F i (nI x) (nI y) (nI w) (nI h) = 0) = ¬ (x ≤ v_n F 1 i ∧ v_n F 1 i + v_n F 3 i ≤ x + w ∧ y ≤ v_n F 2 i ∧ v_n F 2 i + v_n F 4 i ≤ y + h) := by
        unfold v_wh
        rw [g1, g2, g3, g4]
        simp (disch := omega) only [nI_add, z_lt]
        by_cases c1 : v_n F 1 i < x <;> by_cases c2 : x + w < v_n F 1 i + v_n F 3 i <;> by_cases c3 : v_n F 2 i < y <;> by_cases c4 : y + h < v_n F 2 i + v_n F 4 i <;> simp [c1, c2, c3, c4] <;> omega
      by_cases c : x ≤ v_n F 1 i ∧ v_n F 1 i + v_n F 3 i ≤ x + w ∧ y ≤ v_n F 2 i ∧ v_n F 2 i + v_n F 4 i ≤ y + h
      · rw [if_neg (by rw [e1]; exact not_not_intro c), if_pos c]
        unfold v_bit
        rw [if_neg ht, g0, x_shl _ (by omega)]
      · rw [if_pos (by rw [e1]; exact c), if_neg c]; rfl
theorem s_wb_lt {F : z_V} (hv : v_val F) (x y w h : Nat) {i : Nat} (hi : i < 12) : s_wb F x y w h i < 65536 := by
  unfold s_wb
  split
  · omega
  · rename_i ht
    split
    · rcases hv i hi with h1 | h1
      · exact absurd h1 ht
      · exact x_plt h1.2.2.2.2.2.1
    · omega
theorem s_wm_lt {F : z_V} (hv : v_val F) (x y w h : Nat) : s_wm F x y w h < 65536 := z_nor_lt 12 fun i hi => s_wb_lt hv x y w h hi
theorem s_wm_tb {F : z_V} (x y w h k : Nat) : (s_wm F x y w h).testBit k = true ↔ ∃ i, i < 12 ∧ s_in F i x y w h ∧ v_n F 0 i = k := by
  unfold s_wm
  rw [z_nor_tb]
  constructor
  · rintro ⟨i, hi, e⟩
    unfold s_wb at e
    by_cases ht : F 0 i = -1
    · rw [if_pos ht] at e; simp at e
    · rw [if_neg ht] at e
      by_cases c : x ≤ v_n F 1 i ∧ v_n F 1 i + v_n F 3 i ≤ x + w ∧ y ≤ v_n F 2 i ∧ v_n F 2 i + v_n F 4 i ≤ y + h
      · rw [if_pos c, x_pow] at e
        exact ⟨i, hi, ⟨ht, c⟩, by simpa using e⟩
      · rw [if_neg c] at e; simp at e
  · rintro ⟨i, hi, ⟨ht, c⟩, rfl⟩
    refine ⟨i, hi, ?_⟩
    unfold s_wb
    rw [if_neg ht, if_pos c, x_pow]
    simp
/-- what is asked of a rectangle -/
def s_c (F : z_V) (many P x y w h : Nat) : Prop := many ≤ x_pop (s_wm F x y w h) ∧ x_sub P (s_wm F x y w h) = 0
def s_ky (x y w h : Nat) : Nat := if w * h = 0 then 0 else (193 - w * h) * 3264 + (11 - y) * 272 + (15 - x) * 17 + w
def s_ok (C : Nat → Nat → Nat → Nat → Prop) (x y w h : Nat) : Prop := (x = 0 ∧ y = 0 ∧ w = 0 ∧ h = 0) ∨ (ct_vr x y w h ∧ C x y w h)
def s_best (C : Nat → Nat → Nat → Nat → Prop) (x y w h : Nat) : Prop := s_ok C x y w h ∧ ∀ x' y' w' h', ct_vr x' y' w' h' → C x' y' w' h' → s_ky x' y' w' h' ≤ s_ky x y w h
theorem s_kyp {x y w h : Nat} (v : ct_vr x y w h) : s_ky x y w h = (193 - w * h) * 3264 + (11 - y) * 272 + (15 - x) * 17 + w ∧ 1 ≤ w * h ∧ w * h ≤ 192 := by
  have h1 := ct_pos v.1 v.2.1
  have h2 : w * h ≤ 192 := ct_mul (by have := v.2.2.1; omega) (by have := v.2.2.2; omega)
  unfold s_ky
  rw [if_neg (by omega)]
  exact ⟨rfl, h1, h2⟩
theorem s_ky0 : s_ky 0 0 0 0 = 0 := rfl
theorem s_inj {x y w h x' y' w' h' : Nat} (h1 : ct_vr x y w h) (h2 : ct_vr x' y' w' h') (e : s_ky x y w h = s_ky x' y' w' h') : x = x' ∧ y = y' ∧ w = w' ∧ h = h' := by
  obtain ⟨e1, p1, q1⟩ := s_kyp h1
  obtain ⟨e2, p2, q2⟩ := s_kyp h2
  rw [e1, e2] at e
  clear e1 e2
  have h1' := h1
  unfold ct_vr at h1 h2
  have key : ∀ a y x w : Nat, a ≤ 192 → 1 ≤ w → x + w ≤ 16 → y ≤ 11 → ((193 - a) * 3264 + (11 - y) * 272 + (15 - x) * 17 + w) / 3264 = 193 - a ∧ ((193 - a) * 3264 + (11 - y) * 272 + (15 - x) * 17 + w) % 3264 / 272 = 11 - y ∧ ((193 - a) * 3264 + (11 - y) * 272 + (15 - x) * 17 + w) % 272 / 17 = 15 - x ∧ ((193 - a) * 3264 + (11 - y) * 272 + (15 - x) * 17 + w) % 17 = w % 17 := by
    intro a y x w g1 g2 g3 g4
    refine ⟨by omega, by omega, by omega, by omega⟩
  obtain ⟨a1, a2, a3, a4⟩ := key (w * h) y x w q1 (by omega) (by omega) (by omega)
  obtain ⟨b1, b2, b3, b4⟩ := key (w' * h') y' x' w' q2 (by omega) (by omega) (by omega)
  rw [e] at a1 a2 a3 a4
  have a : w * h = w' * h' ∧ y = y' ∧ x = x' ∧ w = w' := by omega
  obtain ⟨z1, z2, z3, rfl⟩ := a
  exact ⟨z3, z2, rfl, Nat.eq_of_mul_eq_mul_left (by omega) z1⟩
theorem s_uniq {C : Nat → Nat → Nat → Nat → Prop} {x y w h x' y' w' h' : Nat} (h1 : s_best C x y w h) (h2 : s_best C x' y' w' h') : x = x' ∧ y = y' ∧ w = w' ∧ h = h' := by
  rcases h1.1 with ⟨rfl, rfl, rfl, rfl⟩ | ⟨v1, c1⟩
  · rcases h2.1 with ⟨rfl, rfl, rfl, rfl⟩ | ⟨v2, c2⟩
    · exact ⟨rfl, rfl, rfl, rfl⟩
    · have := h1.2 _ _ _ _ v2 c2
      rw [(s_kyp v2).1, s_ky0] at this
      have := v2.1
      omega
  · rcases h2.1 with ⟨rfl, rfl, rfl, rfl⟩ | ⟨v2, c2⟩
    · have := h2.2 _ _ _ _ v1 c1
      rw [(s_kyp v1).1, s_ky0] at this
      have := v1.1
      omega
    · exact s_inj v1 v2 (Nat.le_antisymm (h2.2 _ _ _ _ v1 c1) (h1.2 _ _ _ _ v2 c2))
theorem s_bnd {C : Nat → Nat → Nat → Nat → Prop} {x y w h : Nat} (h1 : s_ok C x y w h) : x ≤ 15 ∧ y ≤ 11 ∧ w ≤ 16 ∧ h ≤ 12 ∧ w * h ≤ 192 ∧ (w * h = 0 ↔ w = 0) := by
  rcases h1 with ⟨rfl, rfl, rfl, rfl⟩ | ⟨v, -⟩
  · omega
  · have := ct_pos v.1 v.2.1
    unfold ct_vr at v
    exact ⟨by omega, by omega, by omega, by omega, ct_mul (by omega) (by omega), by omega⟩
theorem s_subm {P a b : Nat} (hP : P < 65536) (h : ∀ i, a.testBit i = true → b.testBit i = true) (e : x_sub P a = 0) : x_sub P b = 0 := by
  apply Nat.eq_of_testBit_eq
  intro i
  have e1 : (x_sub P a).testBit i = false := by rw [e]; simp
  rw [x_tsub hP] at e1 ⊢
  have := h i
  rw [Nat.zero_testBit]
  revert e1 this
  cases P.testBit i <;> cases a.testBit i <;> cases b.testBit i <;> simp
theorem s_cm {F : z_V} {many P x y w h x' y' w' h' : Nat} (hP : P < 65536) (hs : ∀ i, i < 12 → s_in F i x y w h → s_in F i x' y' w' h') (hc : s_c F many P x y w h) : s_c F many P x' y' w' h' := by
  have hm : ∀ k, (s_wm F x y w h).testBit k = true → (s_wm F x' y' w' h').testBit k = true := fun k => by
    rw [s_wm_tb, s_wm_tb]
    rintro ⟨i, hi, q, e⟩
    exact ⟨i, hi, hs i hi q, e⟩
  exact ⟨Nat.le_trans hc.1 (fb_ct_sub fun k _ => hm k), s_subm hP hm hc.2⟩
/-- a rectangle that no figure reaches at the left and on top has a better one in it -/
theorem s_dom {F : z_V} (hv : v_val F) {many P x y w h : Nat} (hP : P < 65536) (hne : 1 ≤ many ∨ P ≠ 0) (v : ct_vr x y w h) (hc : s_c F many P x y w h) : ∃ i j x' y' w' h', i < 12 ∧ j < 12 ∧ ¬ F 0 i = -1 ∧ ¬ F 0 j = -1 ∧ x' = v_n F 1 i ∧ y' = v_n F 2 j ∧ ct_vr x' y' w' h' ∧ s_c F many P x' y' w' h' ∧ s_ky x y w h ≤ s_ky x' y' w' h' := by
  have h0 : ∃ i, i < 12 ∧ s_in F i x y w h := by
    have hex : ∃ k, (s_wm F x y w h).testBit k = true := by
      rcases hne with q | q
      · have : 0 < x_pop (s_wm F x y w h) := by have := hc.1; omega
        obtain ⟨k, -, e⟩ := fb_ct_pos.mp this
        exact ⟨k, e⟩
      · obtain ⟨k, e⟩ : ∃ k, P.testBit k = true := by
          apply Classical.byContradiction
          intro hn
          exact q (Nat.eq_of_testBit_eq fun i => by
            rw [Nat.zero_testBit]
            cases e : P.testBit i with
            | false => rfl
            | true => exact absurd ⟨i, e⟩ hn)
        refine ⟨k, ?_⟩
        have e1 : (x_sub P (s_wm F x y w h)).testBit k = false := by rw [hc.2]; simp
        rw [x_tsub hP, e] at e1
        simpa using e1
    obtain ⟨k, e⟩ := hex
    obtain ⟨i, hi, q, -⟩ := (s_wm_tb x y w h k).mp e
    exact ⟨i, hi, q⟩
  obtain ⟨i0, hi0, q0⟩ := h0
  obtain ⟨l0, ⟨i, hi, qi, el⟩, hl⟩ := pk_least (fun l => ∃ i, i < 12 ∧ s_in F i x y w h ∧ v_n F 1 i = l) ⟨_, i0, hi0, q0, rfl⟩
  obtain ⟨t0, ⟨j, hj, qj, et⟩, ht⟩ := pk_least (fun t => ∃ i, i < 12 ∧ s_in F i x y w h ∧ v_n F 2 i = t) ⟨_, i0, hi0, q0, rfl⟩
  have bi : 1 ≤ v_n F 3 i := by
    rcases hv i hi with c | c
    · exact absurd c qi.1
    · exact c.2.2.2.2.2.2.1
  have bj : 1 ≤ v_n F 4 j := by
    rcases hv j hj with c | c
    · exact absurd c qj.1
    · exact c.2.2.2.2.2.2.2.1
  have c1 := qi.2
  have c2 := qj.2
  have v2 : ct_vr l0 t0 (x + w - l0) (y + h - t0) := by unfold ct_vr at v ⊢; omega
  refine ⟨i, j, l0, t0, x + w - l0, y + h - t0, hi, hj, qi.1, qj.1, el.symm, et.symm, v2, ?_, ?_⟩
  · refine s_cm hP (fun m hm q => ?_) hc
    have d1 : l0 ≤ v_n F 1 m := by
      rcases Nat.lt_or_ge (v_n F 1 m) l0 with g | g
      · exact absurd ⟨m, hm, q, rfl⟩ (hl _ g)
      · exact g
    have d2 : t0 ≤ v_n F 2 m := by
      rcases Nat.lt_or_ge (v_n F 2 m) t0 with g | g
      · exact absurd ⟨m, hm, q, rfl⟩ (ht _ g)
      · exact g
    refine ⟨q.1, d1, ?_, d2, ?_⟩
    · have := q.2; omega
    · have := q.2; omega
  · obtain ⟨e1, p1, r1⟩ := s_kyp v
    obtain ⟨e2, p2, r2⟩ := s_kyp v2
    rw [e1, e2]
    unfold ct_vr at v v2
    have m1 : (x + w - l0) * (y + h - t0) ≤ w * h := Nat.mul_le_mul (by omega) (by omega)
    by_cases e : l0 = x ∧ t0 = y
    · obtain ⟨rfl, rfl⟩ := e
      have : (l0 + w - l0) * (t0 + h - t0) = w * h := by rw [Nat.add_sub_cancel_left, Nat.add_sub_cancel_left]
      omega
    · have m2 : (x + w - l0) * (y + h - t0) < w * h := by
        by_cases ex : l0 = x
        · have g : (x + w - l0) * (y + h - t0) ≤ w * (h - 1) := Nat.mul_le_mul (by omega) (by omega)
          have e5 : w * (h - 1) = w * h - w := by rw [Nat.mul_sub, Nat.mul_one]
          omega
        · have g : (x + w - l0) * (y + h - t0) ≤ (w - 1) * h := Nat.mul_le_mul (by omega) (by omega)
          have e5 : (w - 1) * h = w * h - h := by rw [Nat.sub_mul, Nat.one_mul]
          omega
      omega
