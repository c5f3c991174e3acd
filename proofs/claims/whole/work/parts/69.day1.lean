/-! a day: what the law is told of a person -/
def d_W3 (f : Nat → Nat → Int32) (s t : ax_S) : Prop := v_R (vX s.2.1 5) (vM t.2.1 64) ∧ (∀ p, p < 16 → s.2.1 10 p = t.2.1 64 (60 + p) ∧ (∃ n, n ≤ 99 ∧ t.2.1 64 (60 + p) = nI n) ∧ s.2.1 11 p = t.2.1 64 (76 + p) ∧ s.2.1 12 p = t.2.1 64 (92 + p) + 1) ∧ y_sX f s ∧ y_sM f t
theorem X_per1 (p : Nat) (hp : p < 16) (s : ax_S) : X_isPerson (nI p) s = 1 := by
  unfold X_isPerson
  rw [X_within_eq]
  have m : M_in (nI p) 0 15 s = _ := M_in_n (a := p) (b := 0) (c := 15) (by omega) (by omega) (by omega) s
  rw [m, if_pos (by omega)]
theorem X_stp3 (p : Nat) (hp : p < 16) (z : Int32) (s : ax_S) : XSt_setPain_3 (nI p) z s = some (ax_sI s 10 p (t_c z)) := by
  unfold XSt_setPain_3
  rw [X_per1 p hp]
  simp (disch := omega) only [z_10, z_cl, z_lt0, z_nle, or_self, if_false]
  rfl
theorem d_since (d l : Int32) : (d - (l + 1)) + 1 = d - l := by
  rw [Int32.sub_eq_add_neg, Int32.neg_add, Int32.sub_eq_add_neg (a := -l), ← Int32.add_assoc, Int32.add_assoc (d + -l), Int32.add_left_neg, Int32.add_zero, Int32.sub_eq_add_neg]
theorem d_m1 (l : Int32) : (l + 1 = 0) ↔ l = -1 := by
  constructor
  · intro h
    have : l + 1 + -1 = 0 + -1 := by rw [h]
    rw [Int32.add_assoc, show (1 : Int32) + -1 = 0 by decide, Int32.add_zero, Int32.zero_add] at this
    exact this
  · rintro rfl; decide
theorem d_min (z : Int32) (s : ax_S) : M_min 99 z s = if z < 99 then z else 99 := by
  unfold M_min
  by_cases c : z < 99
  · rw [if_pos c, if_pos (Int32.le_of_lt c)]
  · rw [if_neg c]
    by_cases e : z ≤ 99
    · rw [if_pos e]; exact Int32.le_antisymm e (Int32.not_lt.mp c)
    · rw [if_neg e]
theorem d_tell3 {f : Nat → Nat → Int32} {s t : ax_S} (hW : d_W3 f s t) {p d : Nat} (hp : p < 16) (hd : d ≤ 9999) (h5 : s.2.1 3 5 = nI d) (h289 : t.2.1 64 289 = nI d) (h13 : s.2.1 36 13 = nI (d % 100)) :
    ∃ s1 t1, XSt_tellOf_3_36 (nI p) s = some s1 ∧ M_feels (nI p) t = some t1 ∧ (∀ c j, ¬ (c = 36 ∧ 9 ≤ j ∧ j ≤ 14) → s1.2.1 c j = s.2.1 c j) ∧ s1.2.1 36 13 = nI (d % 100) ∧ (∀ c, c ≠ 80 → t1.2.1 c = t.2.1 c) ∧ y_e (fun i => s1.2.1 36 (9 + i)) = y_e (t1.2.1 80) := by
  obtain ⟨hR, hP, -, -⟩ := hW
  obtain ⟨p1, -, p3, p4⟩ := hP p hp
  have hn : z_sum (g_N (s.2.1 5) (nI p)) 12 = z_sum (g_N (t.2.1 64) (nI p)) 12 := z_sum_congr 12 fun i hi => by
    have := (hR i hi).1
    simp only [vX, vM, Nat.mul_zero, Nat.zero_add, Nat.add_zero] at this
    unfold g_N; rw [this]
  unfold XSt_tellOf_3_36 M_feels XSt_painOf_3 XSt_shownOf_3 XSt_daysSinceShown_3
  rw [X_per1 p hp, XFi_howManyOf_4_eq]
  simp (disch := omega) only [z_10, q_60, q_76, nI_add, z_cl, z_lt0, z_nle, or_self, if_false, M_figuresOf_eq]
  unfold M_daysSince
  simp (disch := omega) only [q_92, nI_add, z_cl, z_lt0, z_nle, or_self, if_false, r_I]
  rw [p4, d_since, h289, h5, ← hn, p1, p3]
  have e100 : nI d - nI d / 100 * 100 = nI (d % 100) := z_rem (a := d) (d := 100) (by omega) (by omega) (by omega)
  rw [e100]
  by_cases c : t.2.1 64 (92 + p) = -1
  · rw [if_pos c, if_pos ((d_m1 _).mpr c)]
    simp only []
    unfold XLa_setPerson_36
    refine ⟨_, _, rfl, rfl, fun c j e => ?_, ?_, fun c e => ?_, ?_⟩
    · rw [r_one c j (by omega), r_two c j (by omega) (by omega), r_two c j (by omega) (by omega)]
    · simp (disch := omega) only [r_Ie, r_un]; exact h13
    · simp (disch := omega) only [r_I]
    · funext i
      unfold y_e
      by_cases hi : i < 6
      · have h : i = 0 ∨ i = 1 ∨ i = 2 ∨ i = 3 ∨ i = 4 ∨ i = 5 := by omega
        rcases h with rfl | rfl | rfl | rfl | rfl | rfl
        all_goals simp (disch := omega) only [if_pos, Nat.reduceAdd, r_Ie, r_un, r_u, h13]
      · rw [if_neg hi, if_neg hi]
  · rw [if_neg c, if_neg (fun h => c ((d_m1 _).mp h)), d_min]
    simp only []
    unfold XLa_setPerson_36
    refine ⟨_, _, rfl, rfl, fun c j e => ?_, ?_, fun c e => ?_, ?_⟩
    · rw [r_one c j (by omega), r_two c j (by omega) (by omega), r_two c j (by omega) (by omega)]
    · simp (disch := omega) only [r_Ie, r_un]; exact h13
    · simp (disch := omega) only [r_I]
    · funext i
      unfold y_e
      by_cases hi : i < 6
      · have h : i = 0 ∨ i = 1 ∨ i = 2 ∨ i = 3 ∨ i = 4 ∨ i = 5 := by omega
        rcases h with rfl | rfl | rfl | rfl | rfl | rfl
        all_goals simp (disch := omega) only [if_pos, Nat.reduceAdd, r_Ie, r_un, r_u, h13]
      · rw [if_neg hi, if_neg hi]
