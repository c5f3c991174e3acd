/-! law: tests -/
def l_bo (V : (Nat → Int32) → Option Int32) : Prop := ∀ E, V E = none ∨ V E = some 0 ∨ V E = some 1
theorem bo_op (op x y) (h : op = 60 ∨ op = 62 ∨ op = 61) : l_op op x y = some 0 ∨ l_op op x y = some 1 := by
  rcases h with rfl | rfl | rfl
  · show (if y ≤ x then some (0 : Int32) else some 1) = some 0 ∨ (if y ≤ x then some (0 : Int32) else some 1) = some 1
    by_cases c : y ≤ x
    · exact Or.inl (if_pos c)
    · exact Or.inr (if_neg c)
  · show (if x ≤ y then some (0 : Int32) else some 1) = some 0 ∨ (if x ≤ y then some (0 : Int32) else some 1) = some 1
    by_cases c : x ≤ y
    · exact Or.inl (if_pos c)
    · exact Or.inr (if_neg c)
  · show (if x = y then some (1 : Int32) else some 0) = some 0 ∨ (if x = y then some (1 : Int32) else some 0) = some 1
    by_cases c : x = y
    · exact Or.inr (if_pos c)
    · exact Or.inl (if_neg c)
theorem bo_cmp {k op : Nat} (hk : l_kd k op) (h : op = 60 ∨ op = 62 ∨ op = 61) (A B : (Nat → Int32) → Option Int32) : l_bo fun E => l_join op (A E) (B E) := by
  intro E
  show l_join op (A E) (B E) = none ∨ l_join op (A E) (B E) = some 0 ∨ l_join op (A E) (B E) = some 1
  rw [l_jn hk]
  cases A E with
  | none => exact Or.inl rfl
  | some x =>
    cases B E with
    | none => exact Or.inl rfl
    | some y => exact Or.inr (bo_op op x y h)
theorem bo_jn {op : Nat} (h : op = 38 ∨ op = 124) {A B : (Nat → Int32) → Option Int32} (hA : l_bo A) (hB : l_bo B) : l_bo fun E => l_join op (A E) (B E) := by
  intro E
  show l_join op (A E) (B E) = none ∨ l_join op (A E) (B E) = some 0 ∨ l_join op (A E) (B E) = some 1
  have e : l_join op (A E) (B E) = A E ∨ l_join op (A E) (B E) = B E := by
    unfold l_join
    rcases h with rfl | rfl
    · rw [if_pos rfl]
      by_cases c : A E = some 1
      · exact Or.inr (if_pos c)
      · exact Or.inl (if_neg c)
    · rw [if_neg (by decide), if_pos rfl]
      by_cases c : A E = some 0
      · exact Or.inr (if_pos c)
      · exact Or.inl (if_neg c)
  rcases e with e | e
  · rw [e]; exact hA E
  · rw [e]; exact hB E
theorem bo_not {A : (Nat → Int32) → Option Int32} (hA : l_bo A) : l_bo fun E => (A E).map fun v => 1 - v := by
  intro E
  rcases hA E with h | h | h
  · exact Or.inl (by show (A E).map _ = none; rw [h]; rfl)
  · exact Or.inr (Or.inr (by show (A E).map _ = some 1; rw [h]; rfl))
  · exact Or.inr (Or.inl (by show (A E).map _ = some 0; rw [h]; rfl))
/-- the reference behind a test -/
def l_af (j N : Nat) (s9 : ax_S) : Option (Int32 × ax_S) :=
        match M_readsCondition_l92 j s9 with
        | none => none
        | some (.inl s13) =>
          match M_here s13 with
          | none => none
          | some v14 =>
            if v14 = (38 : Int32) then (
              match M_lands (M_readsCondition_j187 v14 s13) s13 with
              | none => none
              | some s16 =>
                match M_here s16 with
                | none => none
                | some v17 =>
                  match M_jumps (M_readsCondition_j205 v17 s16) s16 with
                  | none => none
                  | some s19 =>
                    M_readsCondition_l40 N s19) else
            if v14 = (124 : Int32) then (
              match M_lands (M_readsCondition_j187_1 v14 s13) s13 with
              | none => none
              | some s21 =>
                match M_here s21 with
                | none => none
                | some v22 =>
                  match M_jumps (M_readsCondition_j205_1 v22 s21) s21 with
                  | none => none
                  | some s24 =>
                    M_readsCondition_l40 N s24) else
            some ((M_wrongAt (1 : Int32) (s13.2.1 63 6) s13).1, (M_wrongAt (1 : Int32) (s13.2.1 63 6) s13).2)
        | some (.inr r) => some r
def l_E2 (e j N : Nat) (s : ax_S) : Option (Int32 × ax_S) := match M_endsPiece_l0 e s with
  | none => none
  | some s9 => l_af j N s9
def l_TEST (B : Nat → Nat) (n v : Nat) (f : ax_S → Option ax_S) (d D : Nat) : Prop :=
  ∀ sX sM a cX cM w N, a ≤ n → cX ≤ a → cM ≤ a → w ≤ a → 1 ≤ w → n - a < N → (v = 0 ∨ t_ch B n a = nI v) → l_lo sM w → l_cX B n a cX sX → l_cM B n a cM w d sM →
   (∃ b m V tX tM N' e j, a < b ∧ b ≤ n ∧ m ≤ b - a ∧ n - b < N' ∧ w < e ∧ n - b < j ∧ f sX = some tX ∧ M_readsCondition_l40 N sM = l_E2 e j N' tM ∧ l_cX B n b (cX + m) tX ∧ l_cM B n b (cM + m) w d tM ∧ l_oX tX cX m V D ∧ l_oM tM cM m V D ∧ l_gX cX sX tX ∧ l_gM cM w sM tM ∧ l_bo V) ∨
   (∃ tX tM, f sX = some tX ∧ M_readsCondition_l40 N sM = some (0, tM) ∧ t_F tX tM ∧ l_K sX tX ∧ l_ok tX ∧ l_N sM tM)
def l_COND (B : Nat → Nat) (n : Nat) (f : ax_S → Option ax_S) (d D : Nat) : Prop :=
  ∀ sX sM a cX cM w N, a ≤ n → cX ≤ a → cM ≤ a → w ≤ a → 1 ≤ w → n - a < N → sM.2.1 69 (w - 1) = l_cd 13 0 → l_cX B n a cX sX → l_cM B n a cM w d sM →
   (∃ b m V tX tM uM N' j w' c', a < b ∧ b ≤ n ∧ m ≤ b - a ∧ n - b < N' ∧ n - b < j ∧ f sX = some tX ∧ M_readsCondition_l40 N sM = l_af j N' tM ∧ l_cX B n b (cX + m) tX ∧ l_oX tX cX m V D ∧ l_gX cX sX tX ∧ l_cM B n b c' w' d tM ∧ l_gM cM w sM tM ∧
     M_lands 1 tM = some uM ∧ l_cM B n b (cM + m) w d uM ∧ l_oM uM cM m V D ∧ l_gM cM w tM uM ∧ t_ch B n b ≠ 38 ∧ t_ch B n b ≠ 124 ∧ l_bo V) ∨
   (∃ tX tM, f sX = some tX ∧ M_readsCondition_l40 N sM = some (0, tM) ∧ t_F tX tM ∧ l_K sX tX ∧ l_ok tX ∧ l_N sM tM)
theorem l_open {B : Nat → Nat} {n : Nat} (hn : n ≤ 240) (rec : Nat → Int32 → Int32 → ax_S → Option ax_S) (v d D : Nat) (hd : d ≤ 6) (hD : 1 ≤ D) (hv : v = 33 ∨ v = 40) (ht : d < 6 → l_TEST B n 0 (fun s => rec 1 (nI (d + 1)) 0 s) (d + 1) D) (hc : d < 6 → l_COND B n (fun s => rec 0 (nI (d + 1)) 0 s) (d + 1) D) : l_TEST B n v (fun s => XLaRe_readOpenTest rec (nI v) (nI d) s) d D := by
  intro sX sM a cX cM w N ha hcX hcM hw hw1 hN hvv hl hX hM
  have kn : n ≤ 260 := by omega
  have hch : t_ch B n a = nI v := by
    rcases hvv with h | h
    · omega
    · exact h
  have an : a < n := ch_lt hch (by omega)
  obtain ⟨N1, rfl⟩ : ∃ x, N = x + 1 := ⟨N - 1, by omega⟩
  have hgo : XLaRe_readOpenTest rec (nI v) (nI d) sX = (if d < 6 then (if v = 33 then (match rec 1 (nI (d + 1)) 0 (XTa_step sX) with
        | none => none
        | some s4 => match XLa_add_44 33 0 s4 with
          | none => none
          | some s5 => some s5) else (match rec 0 (nI (d + 1)) 0 (XTa_step sX) with
        | none => none
        | some s1 => match XTa_take 41 s1 with
          | none => none
          | some (_, s3) => some s3)) else some (XTa_refuse 5 sX)) := by
    unfold XLaRe_readOpenTest
    simp only [z_1]
    by_cases c : d < 6
    · rw [if_pos (show nI d < 6 by rw [q_6, z_lt (by omega) (by omega)]; exact c), if_pos c]
      rcases hv with rfl | rfl
      · rw [if_pos (show nI 33 = 33 from rfl), if_pos rfl]; rfl
      · rw [if_neg (show ¬ nI 40 = 33 by decide), if_neg (show ¬ 40 = 33 by decide)]; rfl
    · rw [if_neg (show ¬ nI d < 6 by rw [q_6, z_lt (by omega) (by omega)]; exact c), if_neg c]
  show (∃ b m V tX tM N' e j, _ ∧ _ ∧ _ ∧ _ ∧ _ ∧ _ ∧ XLaRe_readOpenTest rec (nI v) (nI d) sX = some tX ∧ _) ∨ (∃ tX tM, XLaRe_readOpenTest rec (nI v) (nI d) sX = some tX ∧ _)
  have hM40 : M_readsCondition_l40 (N1 + 1) sM = (match M_opens (if v = 33 then 10 else 13) sM with
      | none => none
      | some (v6, s7) => if v6 = 0 then some (0, s7) else M_readsCondition_l40 N1 s7) := by
    rw [M_readsCondition_l40, p_here hM.1 kn (by omega), hch]
    rcases hv with rfl | rfl
    · rfl
    · rfl
  rw [hgo, hM40]
  by_cases c6 : d < 6
  · rw [if_pos c6]
    obtain ⟨x1, x2⟩ := X_sp hX cX
    rcases hv with rfl | rfl
    · rw [if_pos rfl, if_pos rfl]
      obtain ⟨t, o1, o2, o3, o4⟩ := M_op hM (by omega) c6 10 cM
      have o1 : M_opens 10 sM = some (1, t) := o1
      rw [o1]
      simp only []
      rw [if_neg (by decide)]
      rcases ht c6 (XTa_step sX) t (a + 1) cX cM (w + 1) N1 (by omega) (by omega) (by omega) (by omega) (by omega) (by omega) (Or.inl rfl) (Or.inr ⟨10, 0, by omega, by omega, by omega, by rw [show w + 1 - 1 = w by omega]; exact o3⟩) x1 o2 with ⟨b, m, V, tX, tM, N', e, j, s1, s2, s3, s4, s5, s6, s7, s8, s9, s10, s11, s12, s13, s14, s15⟩ | ⟨tX, tM, s1, s2, s3, s4, s5, s6⟩
      · have s7 : rec 1 (nI (d + 1)) 0 (XTa_step sX) = some tX := s7
        obtain ⟨e1, rfl⟩ : ∃ x, e = x + 1 := ⟨e - 1, by omega⟩
        obtain ⟨uX, i1, i2, i3, i4, i5⟩ := X_ad s9 (by omega) 33 0
        obtain ⟨uM, j1, j2, j3, j4⟩ := ep_po s10 (by omega) (by omega) (by rw [s14.2.2 w (by omega)]; exact o3) e1 w
        refine Or.inl ⟨b, m + 1, _, uX, uM, N', e1, j, by omega, s2, by omega, s4, by omega, s6, by rw [s7]; simp only [i1], ?_, i2, j2, oX_le (l_seg_not (oX_cg s11 i5 (Nat.le_refl _)) s15 i3) (by omega), oM_le (l_sgM_not (oM_cg s12 j4 (Nat.le_refl _)) j3) (by omega), gX_tr x2 (gX_tr s13 i5 (by omega)) (Nat.le_refl _), gM_tr o4 (gM_tr (gM_le s14 (Nat.le_refl _) (show w ≤ w + 1 by omega)) j4 (by omega) (Nat.le_refl _)) (Nat.le_refl _) (Nat.le_refl _), bo_not s15⟩
        rw [s8]
        unfold l_E2
        rw [j1]
      · have s1 : rec 1 (nI (d + 1)) 0 (XTa_step sX) = some tX := s1
        obtain ⟨u, u1, u2, u3⟩ := l_add 33 0 tX s5
        refine Or.inr ⟨u, tM, by rw [s1]; simp only [u1], s2, ?_, lK_tr x2.1 (lK_tr s4 u2), u3, lN_tr o4.1 s6⟩
        obtain ⟨q1, q2, q3, q4, q5, q6, q7⟩ := s3
        exact ⟨q1, q2, q3, q4, q5, by rw [u2.1 (by rw [q6]; exact (t_fc_ne q3 q4 q5).1)]; exact q6, q7⟩
    · rw [if_neg (show ¬ 40 = 33 by decide), if_neg (show ¬ 40 = 33 by decide)]
      obtain ⟨t, o1, o2, o3, o4⟩ := M_op hM (by omega) c6 13 cM
      have o1 : M_opens 13 sM = some (1, t) := o1
      rw [o1]
      simp only []
      rw [if_neg (by decide)]
      rcases hc c6 (XTa_step sX) t (a + 1) cX cM (w + 1) N1 (by omega) (by omega) (by omega) (by omega) (by omega) (by omega) (by rw [show w + 1 - 1 = w by omega]; exact o3) x1 o2 with ⟨b, m, V, tX, tM, uM, N', j, w', c', s1, s2, s3, s4, s5, s6, s7, s8, s9, s10, s11, s12, s13, s14, s15, s16, s17, s18, s19⟩ | ⟨tX, tM, s1, s2, s3, s4, s5, s6⟩
      · have s6 : rec 0 (nI (d + 1)) 0 (XTa_step sX) = some tX := s6
        obtain ⟨j1, rfl⟩ : ∃ x, j = x + 1 := ⟨j - 1, by omega⟩
        by_cases c41 : t_ch B n b = 41
        · have bn : b < n := ch_lt (v := 41) c41 (by omega)
          obtain ⟨y1, y2⟩ := X_sp s8 (cX + m)
          obtain ⟨z1, z2⟩ := M_cl s14 (cM + m) w
          refine Or.inl ⟨b + 1, m, V, XTa_step tX, _, N', 70000, j1, by omega, by omega, by omega, by omega, by omega, by omega, ?_, ?_, y1, z1, oX_cg s9 y2 (Nat.le_refl _), oM_cg s15 z2 (Nat.le_refl _), gX_tr x2 (gX_tr s10 y2 (by omega)) (Nat.le_refl _), gM_tr o4 (gM_tr (gM_le s12 (Nat.le_refl _) (show w ≤ w + 1 by omega)) (gM_tr (gM_le s16 (Nat.le_refl _) (show w ≤ w + 1 by omega)) z2 (by omega) (Nat.le_refl _)) (Nat.le_refl _) (Nat.le_refl _)) (Nat.le_refl _) (Nat.le_refl _), s19⟩
          · have tk : XTa_take 41 tX = some (1, XTa_step tX) := by
              unfold XTa_take
              rw [p_peek s8.1 kn (by omega)]
              simp only [c41, if_true]
              rfl
            rw [s6]
            simp only [tk]
          · rw [s7]
            unfold l_af l_E2
            rw [M_readsCondition_l92, p_here s11.1 kn (by omega)]
            simp only [c41, if_true, s13]
            rw [if_neg (by rw [s14.2.2.1, show nI (w + 1) - 1 = nI w from z_sub (a := w + 1) (b := 1) (by omega), z_eq0 (by omega)]; omega)]
            unfold M_endsPiece l_af
            generalize M_endsPiece_l0 70000 _ = oo
            cases oo <;> rfl
        · obtain ⟨w1, w3, w4⟩ := M_wr 1 b tM
          have kX : t_K tX (XTa_refuseAt 1 (tX.2.1 1 3) tX) := K_ref _ _ _
          refine Or.inr ⟨XTa_refuseAt 1 (tX.2.1 1 3) tX, (M_wrongAt (nI 1) (nI b) tM).2, ?_, ?_, ⟨1, b, by omega, by omega, by omega, ?_, w3⟩, lK_tr x2.1 (lK_tr s10.1 (lK_of kX)), lok_K kX (cX_ok s8 (by omega)), lN_tr o4.1 (lN_tr s12.1 (lN_of w4))⟩
          · have tk : XTa_take 41 tX = some (0, XTa_refuseAt 1 (tX.2.1 1 3) tX) := by
              unfold XTa_take
              rw [p_peek s8.1 kn (by omega)]
              simp only [if_neg c41]
            rw [s6]
            simp only [tk]
          · rw [s7]
            unfold l_af
            rw [M_readsCondition_l92, p_here s11.1 kn (by omega)]
            simp only [if_neg c41, p_here s11.1 kn (show b ≤ 300 by omega), if_neg s17, if_neg s18]
            rw [s11.1.2.1]
            rfl
          · rw [s8.1.2.1]; exact X_rf s8.1 1 b
      · have s1 : rec 0 (nI (d + 1)) 0 (XTa_step sX) = some tX := s1
        obtain ⟨v, u, e1, e2⟩ := a_take 41 tX
        refine Or.inr ⟨u, tM, ?_, s2, F_K s3 e2, lK_tr x2.1 (lK_tr s4 (lK_of e2)), lok_K e2 s5, lN_tr o4.1 s6⟩
        rw [s1]
        simp only [e1]
  · have hd6 : d = 6 := by omega
    subst hd6
    rw [if_neg c6]
    obtain ⟨t, o1, o2, o3⟩ := M_op6 hM (if v = 33 then 10 else 13)
    rw [o1]
    refine Or.inr ⟨_, t, rfl, rfl, ⟨5, a, by omega, by omega, by omega, ?_, o2⟩, lK_of (K_ref _ _ _), lok_K (K_ref _ _ _) (cX_ok hX (by omega)), o3⟩
    unfold XTa_refuse; rw [hX.1.2.1]; exact X_rf hX.1 5 a
/-- signs that compare -/
theorem l_cps (v : Int32) : (¬ v = 60 ∧ ¬ v = 62 ∧ ¬ v = 61) ∨ ∃ sg kd, v = nI sg ∧ l_kd kd sg ∧ (sg = 60 ∨ sg = 62 ∨ sg = 61) ∧ kd ≤ 9 := by
  by_cases c1 : v = 60
  · subst c1; exact Or.inr ⟨60, 7, rfl, by unfold l_kd; omega, by omega, by omega⟩
  by_cases c2 : v = 62
  · subst c2; exact Or.inr ⟨62, 8, rfl, by unfold l_kd; omega, by omega, by omega⟩
  by_cases c3 : v = 61
  · subst c3; exact Or.inr ⟨61, 9, rfl, by unfold l_kd; omega, by omega, by omega⟩
  exact Or.inl ⟨c1, c2, c3⟩
theorem l_test {B : Nat → Nat} {n : Nat} (hn : n ≤ 240) (rec : Nat → Int32 → Int32 → ax_S → Option ax_S) (d D Ds : Nat) (hd : d ≤ 6) (hDs : Ds + 1 ≤ D) (hD2 : 2 ≤ D) (ho : ∀ v, v = 33 ∨ v = 40 → l_TEST B n v (fun s => rec 2 (nI v) (nI d) s) d D) (hs : l_SUM B n (fun s => rec 3 (nI d) 0 s) d Ds) (hla : ∀ s, l_ok s → l_an (rec 3 (nI d) 0 s) s) : l_TEST B n 0 (fun s => XLaRe_readTest rec (nI d) s) d D := by
  intro sX sM a cX cM w N ha hcX hcM hw hw1 hN hvv hl hX hM
  have kn : n ≤ 260 := by omega
  have unf : XLaRe_readTest rec (nI d) sX = (if t_ch B n a = 33 then rec 2 33 (nI d) sX else if t_ch B n a = 40 then rec 2 40 (nI d) sX else (match rec 3 (nI d) 0 sX with
      | none => none
      | some s3 => match XTa_peek s3 with
        | none => none
        | some v4 => if v4 = 60 ∨ v4 = 62 ∨ v4 = 61 then (match rec 3 (nI d) 0 (XTa_step s3) with
          | none => none
          | some s5 => match XLa_add_44 v4 0 s5 with
            | none => none
            | some s6 => some s6) else some (XTa_refuse 1 s3))) := by
    unfold XLaRe_readTest
    rw [p_peek hX.1 kn (by omega)]
    simp only []
    by_cases c1 : t_ch B n a = 33
    · rw [if_pos c1, if_pos c1, c1]; cases rec 2 33 (nI d) sX <;> rfl
    rw [if_neg c1, if_neg c1]
    by_cases c2 : t_ch B n a = 40
    · rw [if_pos c2, if_pos c2, c2]; cases rec 2 40 (nI d) sX <;> rfl
    rw [if_neg c2, if_neg c2]
    cases rec 3 (nI d) 0 sX with
    | none => rfl
    | some s3 =>
      simp only []
      cases XTa_peek s3 with
      | none => rfl
      | some v4 =>
        simp only []
        by_cases e1 : v4 = 60
        · rw [if_pos e1, if_pos (Or.inl e1)]; rfl
        rw [if_neg e1]
        by_cases e2 : v4 = 62
        · rw [if_pos e2, if_pos (Or.inr (Or.inl e2))]; rfl
        rw [if_neg e2]
        by_cases e3 : v4 = 61
        · rw [if_pos e3, if_pos (Or.inr (Or.inr e3))]; rfl
        rw [if_neg e3, if_neg (by rintro (y | y | y); exact e1 y; exact e2 y; exact e3 y)]
  show (∃ b m V tX tM N' e j, _ ∧ _ ∧ _ ∧ _ ∧ _ ∧ _ ∧ XLaRe_readTest rec (nI d) sX = some tX ∧ _) ∨ (∃ tX tM, XLaRe_readTest rec (nI d) sX = some tX ∧ _)
  rw [unf]
  by_cases c1 : t_ch B n a = 33
  · rw [if_pos c1]
    exact ho 33 (Or.inl rfl) sX sM a cX cM w N ha hcX hcM hw hw1 hN (Or.inr c1) hl hX hM
  rw [if_neg c1]
  by_cases c2 : t_ch B n a = 40
  · rw [if_pos c2]
    exact ho 40 (Or.inr rfl) sX sM a cX cM w N ha hcX hcM hw hw1 hN (Or.inr c2) hl hX hM
  rw [if_neg c2]
  obtain ⟨N1, rfl⟩ : ∃ x, N = x + 1 := ⟨N - 1, by omega⟩
  have hM40 : M_readsCondition_l40 (N1 + 1) sM = (match M_readsCompared sM with
      | none => none
      | some (v8, s9) => if v8 = 0 then some (0, s9) else l_af 70000 N1 s9) := by
    rw [M_readsCondition_l40, p_here hM.1 kn (by omega)]
    simp only []
    rw [if_neg c1, if_neg c2]
    rfl
  rw [hM40]
  unfold M_readsCompared
  rcases l_tsum hn hs ha hcX hcM hw hl hX hM with ⟨b, m, V, tX, tM, s1, s2, s3, s4, s5, s6, s7, s8, s9, s10, s11⟩ | ⟨tX, tM, s1, s2, s3, s4, s5, s6⟩
  · have s4 : rec 3 (nI d) 0 sX = some tX := s4
    rw [s4, s5]
    simp only [p_peek s6.1 kn (show b ≤ 300 by omega), p_here s7.1 kn (show b ≤ 300 by omega)]
    rw [if_neg (show ¬ (1 : Int32) = 0 by decide)]
    rcases l_cps (t_ch B n b) with ⟨d1, d2, d3⟩ | ⟨sg, kd, d1, d2, d3, d4⟩
    · have hj : M_readsCompared_j15 (t_ch B n b) tM = some (-1) := by
        unfold M_readsCompared_j15
        rw [if_neg d1, p_here s7.1 kn (by omega)]
        simp only []
        rw [if_neg d2, if_neg d3]
      rw [if_neg (by rintro (y | y | y); exact d1 y; exact d2 y; exact d3 y), hj]
      obtain ⟨w1, w3, w4⟩ := M_wr 1 b tM
      refine Or.inr ⟨_, (M_wrongAt (nI 1) (nI b) tM).2, rfl, ?_, ⟨1, b, by omega, by omega, by omega, ?_, w3⟩, lK_tr s10.1 (lK_of (K_ref _ _ _)), lok_K (K_ref _ _ _) (cX_ok s6 (by omega)), lN_tr s11.1 (lN_of w4)⟩
      · simp only [if_true]
        rw [s7.1.2.1]
        exact if_pos w1
      · unfold XTa_refuse; rw [s6.1.2.1]; exact X_rf s6.1 1 b
    · have bn : b < n := ch_lt d1 (by omega)
      have hj : M_readsCompared_j15 (t_ch B n b) tM = some (nI kd) := by
        unfold M_readsCompared_j15
        rw [p_here s7.1 kn (by omega), d1]
        unfold l_kd at d2
        rcases d2 with ⟨rfl, rfl⟩ | ⟨rfl, rfl⟩ | ⟨rfl, rfl⟩ | ⟨rfl, rfl⟩ | ⟨rfl, rfl⟩ | ⟨rfl, rfl⟩ | ⟨rfl, rfl⟩ | ⟨rfl, rfl⟩
        all_goals first | omega | rfl
      have hv : t_ch B n b = 60 ∨ t_ch B n b = 62 ∨ t_ch B n b = 61 := by
        rw [d1]
        rcases d3 with rfl | rfl | rfl
        · exact Or.inl rfl
        · exact Or.inr (Or.inl rfl)
        · exact Or.inr (Or.inr rfl)
      rw [if_pos hv, hj]
      simp only []
      rw [if_neg (show ¬ nI kd = -1 by rw [z_nne (by omega)]; exact id)]
      obtain ⟨x1, x2⟩ := X_sp s6 (cX + m)
      obtain ⟨y1, y2⟩ := M_sp s7 (cM + m) w
      have gg := gM_tr s11 y2 (by omega) (Nat.le_refl _)
      rcases l_tsum hn hs (a := b + 1) (by omega) (by omega) (by omega) (by omega) (lo_g hl gg (Nat.le_refl _)) x1 y1 with ⟨b2, m2, V2, tX2, tM2, r1, r2, r3, r4, r5, r6, r7, r8, r9, r10, r11⟩ | ⟨tX2, tM2, r1, r2, r3, r4, r5, r6⟩
      · have r4 : rec 3 (nI d) 0 (XTa_step tX) = some tX2 := r4
        obtain ⟨uX, i1, i2, i3, i4, i5⟩ := X_ad r6 (by omega) (t_ch B n b) 0
        obtain ⟨uM, j1, j2, j3, j4⟩ := M_nt r7 (by omega) kd 0 w
        have j1 : M_notes (nI kd) 0 tM2 = some uM := j1
        have hop : l_isop sg := kd_op d2
        have gx : l_gX (cX + m) tX uX := gX_tr x2 (gX_tr r10 i5 (by omega)) (Nat.le_refl _)
        have gm : l_gM (cM + m) w tM uM := gM_tr y2 (gM_tr r11 j4 (by omega) (Nat.le_refl _)) (Nat.le_refl _) (Nat.le_refl _)
        refine Or.inl ⟨b2, m + m2 + 1, fun E => l_join sg (V E) (V2 E), uX, uM, N1, 70000, 70000, by omega, r2, by omega, by omega, by omega, by omega, by rw [r4]; simp only [i1], ?_, ?_, ?_, ?_, ?_, gX_tr s10 gx (by omega), gM_tr s11 gm (by omega) (Nat.le_refl _), bo_cmp d2 d3 V V2⟩
        · rw [r5]
          simp only [if_neg (show ¬ (1 : Int32) = 0 by decide), j1]
          unfold l_E2 M_endsPiece
          cases M_endsPiece_l0 70000 uM with
          | none => rfl
          | some s9 => exact if_neg (by decide)
        · rw [show cX + (m + m2 + 1) = cX + m + m2 + 1 by omega]; exact i2
        · rw [show cM + (m + m2 + 1) = cM + m + m2 + 1 by omega]; exact j2
        · exact oX_le (l_seg_op (oX_cg s8 gx (Nat.le_refl _)) (oX_cg r8 i5 (Nat.le_refl _)) (by rw [i3, d1]) hop) (by omega)
        · exact oM_le (l_sgM_op (oM_cg s9 gm (Nat.le_refl _)) (oM_cg r9 j4 (Nat.le_refl _)) j3 d2) (by omega)
      · have r1 : rec 3 (nI d) 0 (XTa_step tX) = some tX2 := r1
        obtain ⟨u, u1, u2, u3⟩ := l_add (t_ch B n b) 0 tX2 r5
        refine Or.inr ⟨u, tM2, by rw [r1]; simp only [u1], ?_, ?_, lK_tr s10.1 (lK_tr x2.1 (lK_tr r4 u2)), u3, lN_tr gg.1 r6⟩
        · rw [r2]
          simp only [if_true]
        · obtain ⟨q1, q2, q3, q4, q5, q6, q7⟩ := r3
          exact ⟨q1, q2, q3, q4, q5, by rw [u2.1 (by rw [q6]; exact (t_fc_ne q3 q4 q5).1)]; exact q6, q7⟩
  · have s1 : rec 3 (nI d) 0 sX = some tX := s1
    rw [s1, s2]
    obtain ⟨v4, hv4⟩ := a_peek tX
    simp only [hv4, if_true]
    by_cases c : v4 = 60 ∨ v4 = 62 ∨ v4 = 61
    · rw [if_pos c]
      obtain ⟨u, e1, e2, e3⟩ := hla (XTa_step tX) (lok_K (l_step tX) s5)
      obtain ⟨u2, f1, f2, f3⟩ := l_add v4 0 u e3
      rw [e1]
      have kk : l_K tX u2 := lK_tr (lK_of (l_step tX)) (lK_tr e2 f2)
      refine Or.inr ⟨u2, tM, by simp only [f1], rfl, ?_, lK_tr s4 kk, f3, s6⟩
      obtain ⟨q1, q2, q3, q4, q5, q6, q7⟩ := s3
      exact ⟨q1, q2, q3, q4, q5, by rw [kk.1 (by rw [q6]; exact (t_fc_ne q3 q4 q5).1)]; exact q6, q7⟩
    · rw [if_neg c]
      exact Or.inr ⟨_, tM, rfl, rfl, F_K s3 (K_ref _ _ _), lK_tr s4 (lK_of (K_ref _ _ _)), lok_K (K_ref _ _ _) s5, s6⟩
