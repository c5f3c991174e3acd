/-! edits: a line about a figure -/
theorem a_told26 (x : Int32) (s : ax_S) : ∃ v, XFi_isTold_26 x s = some v := by
  unfold XFi_isTold_26
  rcases pk_ix x (n := 12) (by decide) with h | h | ⟨j, hj, rfl⟩
  · exact ⟨_, if_pos h⟩
  · have h : (12 : Int32) ≤ x := h
    by_cases h1 : x < 0
    · exact ⟨_, if_pos h1⟩
    · exact ⟨_, by rw [if_neg h1, if_pos h]⟩
  · by_cases c : s.2.1 27 j = -1
    · exact ⟨0, by simp (disch := omega) only [q_12, z_cl, z_lt0, z_le, z_nle, if_false, or_self, c, if_true]⟩
    · exact ⟨1, by simp (disch := omega) only [q_12, z_cl, z_lt0, z_le, z_nle, if_false, or_self, c]⟩
/-- what the drafts' writers may touch -/
def t_D (s t : ax_S) : Prop := ∀ c j, ¬ (27 ≤ c ∧ c ≤ 32) → t.2.1 c j = s.2.1 c j
theorem a_tell26 (x y : Int32) (s : ax_S) : ∃ t, XFi_tell_26 x y s = some t ∧ t_D s t := by
  unfold XFi_tell_26
  rcases pk_ix x (n := 12) (by decide) with h | h | ⟨j, hj, rfl⟩
  · exact ⟨s, if_pos h, fun _ _ _ => rfl⟩
  · have h : (12 : Int32) ≤ x := h
    by_cases h1 : x < 0
    · exact ⟨s, if_pos h1, fun _ _ _ => rfl⟩
    · exact ⟨s, by rw [if_neg h1, if_pos h], fun _ _ _ => rfl⟩
  · exact ⟨ax_sI s 27 j y, by simp (disch := omega) only [q_12, z_cl, z_lt0, z_le, z_nle, if_false, or_self], fun c j d => by rw [r_I (by omega)]⟩
theorem a_move26 (x y z : Int32) (s : ax_S) : ∃ t, XFi_move_26 x y z s = some t ∧ t_D s t := by
  unfold XFi_move_26
  rcases pk_ix x (n := 12) (by decide) with h | h | ⟨j, hj, rfl⟩
  · have e : XFi_isTold_26 x s = some 0 := by unfold XFi_isTold_26; rw [if_pos h]
    rw [e]
    exact ⟨s, rfl, fun _ _ _ => rfl⟩
  · have h : (12 : Int32) ≤ x := h
    have e : XFi_isTold_26 x s = some 0 := by
      unfold XFi_isTold_26
      by_cases h1 : x < 0
      · rw [if_pos h1]
      · rw [if_neg h1, if_pos h]
    rw [e]
    exact ⟨s, rfl, fun _ _ _ => rfl⟩
  · obtain ⟨v, hv⟩ := a_told26 (nI j) s
    rw [hv]
    simp (disch := omega) only [z_cl, z_lt0, z_nle, if_false, or_self]
    by_cases c : v = 0
    · exact ⟨s, by rw [if_pos c], fun _ _ _ => rfl⟩
    · rw [if_neg c]
      by_cases d : X_isOnPrint (s.2.1 28 j + y) (s.2.1 29 j + z) (s.2.1 30 j) (s.2.1 31 j) s = 0
      · exact ⟨s, by rw [if_pos d], fun _ _ _ => rfl⟩
      · exact ⟨_, by rw [if_neg d], fun c j d => by rw [r_I (by omega), r_I (by omega)]⟩
theorem a_j39 (x y : Int32) (s : ax_S) : ∃ t, XEdRe_readFigureEdit_j39 x y s = some t ∧ (s.2.1 1 5 ≠ 0 → t.2.1 1 5 = s.2.1 1 5) ∧ t_P2 s t := by
  unfold XEdRe_readFigureEdit_j39 XFi_takeOut_26
  have w : ∀ t, t_D s t → (s.2.1 1 5 ≠ 0 → t.2.1 1 5 = s.2.1 1 5) ∧ t_P2 s t := fun t d => ⟨fun _ => d _ _ (by omega), fun c j _ e => d c j e⟩
  obtain ⟨t0, h0, d0⟩ := a_tell26 x (-1) s
  obtain ⟨t1, h1, d1⟩ := a_move26 x (-1) 0 s
  obtain ⟨t2, h2, d2⟩ := a_move26 x 1 0 s
  obtain ⟨t3, h3, d3⟩ := a_move26 x 0 (-1) s
  obtain ⟨t4, h4, d4⟩ := a_move26 x 0 1 s
  simp only [h0, h1, h2, h3, h4]
  by_cases c0 : y = 33
  · exact ⟨t0, by rw [if_pos c0], w _ d0⟩
  rw [if_neg c0]
  by_cases c1 : y = 60
  · exact ⟨t1, by rw [if_pos c1], w _ d1⟩
  rw [if_neg c1]
  by_cases c2 : y = 62
  · exact ⟨t2, by rw [if_pos c2], w _ d2⟩
  rw [if_neg c2]
  by_cases c3 : y = 94
  · exact ⟨t3, by rw [if_pos c3], w _ d3⟩
  rw [if_neg c3]
  by_cases c4 : y = 95
  · exact ⟨t4, by rw [if_pos c4], w _ d4⟩
  rw [if_neg c4]
  have := K_ref 1 (s.2.1 1 3) s
  exact ⟨_, rfl, this.1, K_P2 this⟩
/-- one figure changes on both sides -/
theorem t_Rv {s t s2 t2 : ax_S} (h : t_R s t) (v : Nat) (k : ∀ c j, 27 ≤ c → c ≤ 31 → j ≠ v → s2.2.1 c j = s.2.1 c j) (m : ∀ q i, q < 5 → i < 12 → i ≠ v → t2.2.1 64 (12 * q + i) = t.2.1 64 (12 * q + i))
    (e : vX s2.2.1 27 0 v = vM t2.2.1 64 0 v ∧ (vM t2.2.1 64 0 v = -1 ∨ (v_ok (vM t2.2.1 64) v ∧ vX s2.2.1 27 1 v = vM t2.2.1 64 1 v ∧ vX s2.2.1 27 2 v = vM t2.2.1 64 2 v ∧ vX s2.2.1 27 3 v = vM t2.2.1 64 3 v ∧ vX s2.2.1 27 4 v = vM t2.2.1 64 4 v))) : t_R s2 t2 := by
  intro i hi
  by_cases c : i = v
  · subst c; exact e
  · have := h i hi
    simp only [v_ok, vX, vM] at this ⊢
    rw [k (27 + 0) i (by omega) (by omega) c, k (27 + 1) i (by omega) (by omega) c, k (27 + 2) i (by omega) (by omega) c, k (27 + 3) i (by omega) (by omega) c, k (27 + 4) i (by omega) (by omega) c, m 0 i (by omega) hi c, m 1 i (by omega) hi c, m 2 i (by omega) hi c, m 3 i (by omega) hi c, m 4 i (by omega) hi c]
    exact this
theorem M_in_n {a b c : Nat} (ha : a < 2147483648) (hb : b < 2147483648) (hc : c < 2147483648) (s : ax_S) : M_in (nI a) (nI b) (nI c) s = if b ≤ a ∧ a ≤ c then 1 else 0 := by
  unfold M_in
  simp only [z_lt ha hb, z_lt hc ha]
  by_cases h1 : a < b
  · rw [if_pos h1, if_neg (by omega)]
  · rw [if_neg h1]
    by_cases h2 : c < a
    · rw [if_pos h2, if_neg (by omega)]
    · rw [if_neg h2, if_pos (by omega)]
theorem onp_eq (x y w h : Nat) (s : ax_S) (hx : x ≤ 100) (hy : y ≤ 100) (hw : 1 ≤ w) (hw2 : w ≤ 16) (hh : 1 ≤ h) (hh2 : h ≤ 12) : X_isOnPrint (nI x) (nI y) (nI w) (nI h) s = if x + w ≤ 16 ∧ y + h ≤ 12 then 1 else 0 := by
  rw [X_onp_eq]
  have n10 : ¬ (1 : Int32) = 0 := by decide
  have m1 : M_in (nI x) 0 15 s = _ := M_in_n (a := x) (b := 0) (c := 15) (by omega) (by omega) (by omega) s
  have m2 : M_in (nI y) 0 11 s = _ := M_in_n (a := y) (b := 0) (c := 11) (by omega) (by omega) (by omega) s
  by_cases c1 : x ≤ 15
  · rw [if_pos (show 0 ≤ x ∧ x ≤ 15 by omega)] at m1
    rw [m1, if_neg n10]
    by_cases c2 : y ≤ 11
    · rw [if_pos (show 0 ≤ y ∧ y ≤ 11 by omega)] at m2
      rw [m2, if_neg n10, show (16 : Int32) - nI x = nI (16 - x) by rw [q_16, z_sub (by omega)], show (12 : Int32) - nI y = nI (12 - y) by rw [q_12, z_sub (by omega)]]
      have m3 : M_in (nI w) 1 (nI (16 - x)) s = _ := M_in_n (a := w) (b := 1) (c := 16 - x) (by omega) (by omega) (by omega) s
      have m4 : M_in (nI h) 1 (nI (12 - y)) s = _ := M_in_n (a := h) (b := 1) (c := 12 - y) (by omega) (by omega) (by omega) s
      by_cases c3 : w ≤ 16 - x
      · rw [if_pos (show 1 ≤ w ∧ w ≤ 16 - x by omega)] at m3
        rw [m3, if_neg n10]
        by_cases c4 : h ≤ 12 - y
        · rw [if_pos (show 1 ≤ h ∧ h ≤ 12 - y by omega)] at m4
          rw [m4, if_neg n10, if_pos (by omega)]
        · rw [if_neg (show ¬ (1 ≤ h ∧ h ≤ 12 - y) by omega)] at m4
          rw [m4, if_pos rfl, if_neg (by omega)]
      · rw [if_neg (show ¬ (1 ≤ w ∧ w ≤ 16 - x) by omega)] at m3
        rw [m3, if_pos rfl, if_neg (by omega)]
    · rw [if_neg (show ¬ (0 ≤ y ∧ y ≤ 11) by omega)] at m2
      rw [m2, if_pos rfl, if_neg (by omega)]
  · rw [if_neg (show ¬ (0 ≤ x ∧ x ≤ 15) by omega)] at m1
    rw [m1, if_pos rfl, if_neg (by omega)]
theorem onp_neg (d y w h : Int32) (s : ax_S) (hd : d < 0) : X_isOnPrint d y w h s = 0 := by
  rw [X_onp_eq]
  have m : M_in d 0 15 s = 0 := by unfold M_in; rw [if_pos hd]
  rw [m, if_pos rfl]
theorem onp_neg2 (x d w h : Int32) (s : ax_S) (hd : d < 0) : X_isOnPrint x d w h s = 0 := by
  rw [X_onp_eq]
  have m : M_in d 0 11 s = 0 := by unfold M_in; rw [if_pos hd]
  rw [m, if_pos (show (0 : Int32) = 0 from rfl)]
  split <;> rfl
/-- the class's move of a told figure -/
theorem X_mv (v : Nat) (hv : v < 12) (y z : Int32) (s : ax_S) (h : ¬ s.2.1 27 v = -1) : XFi_move_26 (nI v) y z s = if X_isOnPrint (s.2.1 28 v + y) (s.2.1 29 v + z) (s.2.1 30 v) (s.2.1 31 v) s = 0 then some s else some (ax_sI (ax_sI s 28 v (s.2.1 28 v + y)) 29 v (s.2.1 29 v + z)) := by
  unfold XFi_move_26 XFi_isTold_26
  simp (disch := omega) only [q_12, z_cl, z_lt0, z_le, z_nle, if_false, or_self, h, z_10]
/-- of a move on both sides: l2, t2 the new place -/
theorem t_mv {B : Nat → Nat} {n b v p l t w h l2 t2 : Nat} {sX sM : ax_S} (hv : v < 12) (hX : t_X B n b sX) (hM : t_M B n b sM) (hR : t_R sX sM) (hW : t_W sX sM) (o : p < 16 ∧ 1 ≤ w ∧ 1 ≤ h ∧ l + w ≤ 16 ∧ t + h ≤ 12) (f : vM sM.2.1 64 0 v = nI p ∧ vM sM.2.1 64 1 v = nI l ∧ vM sM.2.1 64 2 v = nI t ∧ vM sM.2.1 64 3 v = nI w ∧ vM sM.2.1 64 4 v = nI h) (hl : l2 + w ≤ 16) (ht : t2 + h ≤ 12)
    {tX tM : ax_S} (dX : ∀ c j, ¬ ((c = 28 ∨ c = 29) ∧ j = v) → tX.2.1 c j = sX.2.1 c j) (dX1 : tX.2.1 28 v = nI l2) (dX2 : tX.2.1 29 v = nI t2) (dM : ∀ c j, ¬ (c = 64 ∧ (j = 12 + v ∨ j = 24 + v)) → tM.2.1 c j = sM.2.1 c j) (dM1 : tM.2.1 64 (12 + v) = nI l2) (dM2 : tM.2.1 64 (24 + v) = nI t2) : t_X B n b tX ∧ t_M B n b tM ∧ t_R tX tM ∧ t_W tX tM := by
  refine ⟨⟨by rw [dX _ _ (by omega)]; exact hX.1, by rw [dX _ _ (by omega)]; exact hX.2.1, by rw [dX _ _ (by omega)]; exact hX.2.2.1, fun q hq => by rw [dX _ _ (by omega)]; exact hX.2.2.2 q hq⟩, ⟨by rw [dM _ _ (by omega)]; exact hM.1, by rw [dM _ _ (by omega)]; exact hM.2.1, fun q => by rw [dM _ _ (by omega)]; exact hM.2.2 q⟩, ?_, W_KN hW (fun j => dX _ _ (by omega)) (fun j h1 h2 => dM _ _ (by omega))⟩
  have hRv := hR v hv
  simp only [vX, vM] at f hRv
  obtain ⟨f0, f1, f2, f3, f4⟩ := f
  refine t_Rv hR v (fun c j _ _ hj => dX c j (by omega)) (fun q i hq hi hiv => dM _ _ (by omega)) ?_
  simp only [v_ok, vX, vM]
  have e0 : tM.2.1 64 (12 * 0 + v) = nI p := by rw [dM _ _ (by omega)]; exact f0
  have e1 : tM.2.1 64 (12 * 1 + v) = nI l2 := dM1
  have e2 : tM.2.1 64 (12 * 2 + v) = nI t2 := dM2
  have e3 : tM.2.1 64 (12 * 3 + v) = nI w := by rw [dM _ _ (by omega)]; exact f3
  have e4 : tM.2.1 64 (12 * 4 + v) = nI h := by rw [dM _ _ (by omega)]; exact f4
  rw [f0] at hRv
  have g := hRv.2
  rw [z_nne (by omega)] at g
  have g := g.resolve_left (fun x => x)
  rw [e0, e1, e2, e3, e4, show 27 + 1 = 28 from rfl, show 27 + 2 = 29 from rfl, dX1, dX2, dX (27 + 0) v (by omega), dX (27 + 3) v (by omega), dX (27 + 4) v (by omega), hRv.1, g.2.2.2.1, g.2.2.2.2, f3, f4]
  exact ⟨rfl, Or.inr ⟨⟨p, l2, t2, w, h, o.1, o.2.1, o.2.2.1, hl, ht, rfl, rfl, rfl, rfl, rfl⟩, rfl, rfl, rfl, rfl⟩⟩
