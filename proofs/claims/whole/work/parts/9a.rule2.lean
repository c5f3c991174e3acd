/-! law: a rule, read -/
theorem la_xC (s : ax_S) (o : l_ok s) : l_an (l_xC s) s := by
  unfold l_xC
  obtain ⟨v, t, e1, e2⟩ := a_take 40 s
  rw [e1]
  simp only []
  unfold XLaRe_readLine_j50
  by_cases c : v = 0
  · rw [if_pos c]; exact ⟨t, rfl, lK_of e2, lok_K e2 o⟩
  · rw [if_neg c]
    obtain ⟨u, f1, f2, f3⟩ := (la_rec 48 1 (by omega)).1 (by omega) 0 t (lok_K e2 o)
    have f1 : XLaRe_rec 48 0 1 0 t = some u := f1
    obtain ⟨w, u2, g1, g2⟩ := a_take 41 u
    rw [f1]
    simp only [g1]
    exact ⟨u2, rfl, lK_tr (lK_of e2) (lK_tr f2 (lK_of g2)), lok_K g2 f3⟩
theorem X_line_eq (x1 : Int32) (s : ax_S) : XLaRe_readLine x1 s = (match XTa_peek s with
  | none => none
  | some v1 => match XLa_beginRule_44 v1 (XTa_step s) with
    | none => none
    | some s2 => match XLaRe_readLine_j26 v1 s2 with
      | none => none
      | some s4 => match XLa_beginCondition_44 s4 with
        | none => none
        | some s5 => match l_xC s5 with
          | none => none
          | some s11 => XLa_endRule_44 s11) := by
  unfold XLaRe_readLine l_xC
  cases XTa_peek s with
  | none => rfl
  | some v1 =>
    simp only []
    cases XLa_beginRule_44 v1 (XTa_step s) with
    | none => rfl
    | some s2 =>
      simp only []
      cases XLaRe_readLine_j26 v1 s2 with
      | none => rfl
      | some s4 =>
        simp only []
        cases XLa_beginCondition_44 s4 with
        | none => rfl
        | some s5 =>
          simp only []
          generalize XTa_take 40 s5 = o
          rcases o with _ | ⟨v6, s7⟩
          · rfl
          · simp only []
            cases XLaRe_readLine_j50 v6 s7 with
            | none => rfl
            | some s11 =>
              simp only []
              cases XLa_endRule_44 s11 <;> rfl
/-- the reference's rule behind its letter -/
def l_erM (s7 : ax_S) : Option (Int32 × ax_S) :=
          if ((s7.2.1 63 13) < 0 ∨ 16 ≤ ((s7.2.1 63 13)).toNatClampNeg) then none else
          some ((1 : Int32), (ax_sI (ax_sI s7 73 ((s7.2.1 63 13)).toNatClampNeg (s7.2.1 63 11)) 63 13 ((s7.2.1 63 13) + (1 : Int32))))
def l_S5 (v1 : Int32) (s : ax_S) : ax_S := (ax_sI (ax_sI (ax_sI (ax_sI (ax_sI s 70 ((s.2.1 63 13)).toNatClampNeg v1) 63 6 ((s.2.1 63 6) + (1 : Int32))) 71 ((s.2.1 63 13)).toNatClampNeg (s.2.1 63 11)) 63 10 (0 : Int32)) 63 12 (0 : Int32))
def l_rb (v1 : Int32) (s : ax_S) : Option (Int32 × ax_S) :=
      if (s.2.1 63 13) = (16 : Int32) then (
        some ((M_wrongAt (4 : Int32) (s.2.1 63 6) s).1, (M_wrongAt (4 : Int32) (s.2.1 63 6) s).2)) else
      if ((s.2.1 63 13) < 0 ∨ 16 ≤ ((s.2.1 63 13)).toNatClampNeg) then none else
      if ((s.2.1 63 13) < 0 ∨ 16 ≤ ((s.2.1 63 13)).toNatClampNeg) then none else
      if v1 = (99 : Int32) then (
        if ((s.2.1 63 13) < 0 ∨ 16 ≤ ((s.2.1 63 13)).toNatClampNeg) then none else
        match M_readsCondition (ax_sI (l_S5 v1 s) 72 ((s.2.1 63 13)).toNatClampNeg (s.2.1 63 11)) with
        | none => none
        | some (v2, s3) =>
          if v2 = 0 then (
            some ((0 : Int32), s3)) else
          l_erM s3) else
      match M_readsSum (l_S5 v1 s) with
      | none => none
      | some (v4, s5) =>
        if v4 = 0 then (
          some ((0 : Int32), s5)) else
        if ((s5.2.1 63 13) < 0 ∨ 16 ≤ ((s5.2.1 63 13)).toNatClampNeg) then none else
        match M_readsCondition (ax_sI s5 72 ((s5.2.1 63 13)).toNatClampNeg (s5.2.1 63 11)) with
        | none => none
        | some (v6, s7) =>
          if v6 = 0 then (
            some ((0 : Int32), s7)) else
          l_erM s7
def l_kc (v : Int32) : Prop := v = 119 ∨ v = 108 ∨ v = 104 ∨ v = 99
theorem M_rule_eq (s : ax_S) (v : Int32) (h : M_here s = some v) (hv : l_kc v) : M_readsRule s = l_rb v s := by
  unfold M_readsRule
  rw [h]
  simp only []
  rcases hv with rfl | rfl | rfl | rfl
  · rw [if_pos rfl]; rfl
  · rw [if_neg (by decide), if_pos rfl]; rfl
  · rw [if_neg (by decide), if_neg (by decide), if_pos rfl]; rfl
  · rw [if_neg (by decide), if_neg (by decide), if_neg (by decide), if_pos rfl]; rfl
theorem M_rule_no (s : ax_S) (v : Int32) (h : M_here s = some v) (hv : ¬ l_kc v) : M_readsRule s = some ((M_wrongAt (1 : Int32) (s.2.1 63 6) s).1, (M_wrongAt (1 : Int32) (s.2.1 63 6) s).2) := by
  unfold M_readsRule
  rw [h]
  simp only []
  rw [if_neg (fun e => hv (Or.inl e)), if_neg (fun e => hv (Or.inr (Or.inl e))), if_neg (fun e => hv (Or.inr (Or.inr (Or.inl e)))), if_neg (fun e => hv (Or.inr (Or.inr (Or.inr e))))]
theorem l_S5p {B : Nat → Nat} {n a c r : Nat} {s : ax_S} (hM : t_M B n a s) (hc : s.2.1 63 11 = nI c) (h : s.2.1 63 13 = nI r) (hr : r < 16) (v : Int32) : l_cM B n (a + 1) c 0 0 (l_S5 v s) ∧ (l_S5 v s).2.1 63 13 = nI r ∧ (l_S5 v s).2.1 70 r = v ∧ (l_S5 v s).2.1 71 r = nI c ∧ (∀ k q, k ≠ 63 → ¬ (k = 70 ∧ q = r) → ¬ (k = 71 ∧ q = r) → (l_S5 v s).2.1 k q = s.2.1 k q) ∧ l_NR s (l_S5 v s) := by
  have fr : ∀ k q, ¬ (k = 70 ∧ q = r) → ¬ (k = 71 ∧ q = r) → ¬ (k = 63 ∧ (q = 6 ∨ q = 10 ∨ q = 12)) → (l_S5 v s).2.1 k q = s.2.1 k q := fun k q h1 h2 h3 => by
    unfold l_S5
    rw [h, z_cl (by omega)]
    rw [r_two k q (by omega) (by omega), r_one k q (by omega), r_two k q (by omega) (by omega)]
  refine ⟨⟨⟨?_, ?_, fun k => ?_⟩, ?_, ?_, ?_⟩, ?_, ?_, ?_, fun k q h1 h2 h3 => fr k q h2 h3 (by omega), fun k q h1 h2 => fr k q (by omega) (by omega) (by omega)⟩
  · rw [fr _ _ (by omega) (by omega) (by omega)]; exact hM.1
  · unfold l_S5
    rw [h, z_cl (by omega), r_two _ _ (by omega) (by omega), r_one _ _ (by omega), r_Ie, r_u, hM.2.1, z_1]
  · rw [fr _ _ (by omega) (by omega) (by omega)]; exact hM.2.2 k
  · rw [fr _ _ (by omega) (by omega) (by omega)]; exact hc
  · unfold l_S5
    rw [r_Ie, r_u]; rfl
  · unfold l_S5
    rw [r_one _ _ (by omega), r_Ie, r_u]; rfl
  · rw [fr _ _ (by omega) (by omega) (by omega)]; exact h
  · unfold l_S5
    rw [h, z_cl (by omega), r_two _ _ (by omega) (by omega), r_two _ _ (by omega) (by omega), r_Ie, r_u]
  · unfold l_S5
    rw [h, z_cl (by omega), r_two _ _ (by omega) (by omega), r_Ie, r_u, hc]
theorem l_rule1 {B : Nat → Nat} {n a c r : Nat} {sX sM : ax_S} (hB : ∀ k, B k < 256) (hn : n ≤ 240) (ha : a ≤ n) (hc : c ≤ a) (hr : r < 16) (hX : l_cX B n a c sX) (hX7 : sX.2.1 44 7 = nI r) (hM : t_M B n a sM) (hMc : sM.2.1 63 11 = nI c) (hM13 : sM.2.1 63 13 = nI r) (hv : l_kc (t_ch B n a)) (x1 : Int32) :
    (∃ b m tX tM, a < b ∧ b ≤ n ∧ m ≤ b - a ∧ XLaRe_readLine x1 sX = some tX ∧ M_readsRule sM = some (1, tM) ∧ l_cX B n b (c + m) tX ∧ tX.2.1 44 7 = nI (r + 1) ∧ t_M B n b tM ∧ tM.2.1 63 11 = nI (c + m) ∧ tM.2.1 63 13 = nI (r + 1) ∧ l_dr tX tM r (c + m) ∧ (∀ q, q ≠ r → l_sr q c sX tX sM tM) ∧ l_KR sX tX ∧ l_NR sM tM) ∨
    (∃ tX tM, XLaRe_readLine x1 sX = some tX ∧ M_readsRule sM = some (0, tM) ∧ t_F tX tM ∧ l_KR sX tX ∧ l_NR sM tM) := by
  have kn : n ≤ 260 := by omega
  have an : a < n := by
    rcases hv with h | h | h | h
    · exact ch_lt (v := 119) h (by omega)
    · exact ch_lt (v := 108) h (by omega)
    · exact ch_lt (v := 104) h (by omega)
    · exact ch_lt (v := 99) h (by omega)
  generalize hvv : t_ch B n a = v at hv
  obtain ⟨p1, p2, p3, p4, p5, p6⟩ := l_S5p hM hMc hM13 hr v
  obtain ⟨x2, x3⟩ := X_sp hX c
  have st7 : (XTa_step sX).2.1 44 7 = nI r := by rw [x3.1.2 _ _ (by omega) (by omega) (by omega) (by omega)]; exact hX7
  have st8 : (XTa_step sX).2.1 44 8 = nI c := x2.2
  -- the class ahead of E
  have hb0 := X_bR st7 hr v
  rw [st8] at hb0
  generalize hS1 : ax_sI (ax_sI (XTa_step sX) 45 r v) 46 r (nI c) = S1 at hb0
  have f1 : ∀ k q, ¬ (k = 45 ∧ q = r) → ¬ (k = 46 ∧ q = r) → S1.2.1 k q = (XTa_step sX).2.1 k q := fun k q h1 h2 => by
    rw [← hS1]; exact r_two k q h1 h2
  have f45 : S1.2.1 45 r = v := by rw [← hS1, r_I (by omega), r_Ie, r_u]
  have f46 : S1.2.1 46 r = nI c := by rw [← hS1, r_Ie, r_u]
  have S1c : l_cX B n (a + 1) c S1 := ⟨⟨by rw [f1 _ _ (by omega) (by omega)]; exact x2.1.1, by rw [f1 _ _ (by omega) (by omega)]; exact x2.1.2.1, by rw [f1 _ _ (by omega) (by omega)]; exact x2.1.2.2.1, fun k hk => by rw [f1 _ _ (by omega) (by omega)]; exact x2.1.2.2.2 k hk⟩, by rw [f1 _ _ (by omega) (by omega)]; exact st8⟩
  have S17 : S1.2.1 44 7 = nI r := by rw [f1 _ _ (by omega) (by omega)]; exact st7
  have kr1 : l_KR sX S1 := ⟨fun e => absurd hX.1.2.2.1 e, fun k q h1 h2 h3 => by rw [f1 _ _ (by omega) (by omega)]; exact x3.1.2 k q h1 (by omega) (by omega) (by omega)⟩
  have kr9 : ∀ k q, 45 ≤ k → k ≤ 50 → q ≠ r ∨ (49 ≤ k) → S1.2.1 k q = sX.2.1 k q := fun k q h1 h2 h3 => by
    rw [f1 _ _ (by omega) (by omega)]
    unfold XTa_step
    exact r_one _ _ (by omega)
  have hX0 : XLaRe_readLine x1 sX = (match XLaRe_readLine_j26 v S1 with
      | none => none
      | some s4 => match XLa_beginCondition_44 s4 with
        | none => none
        | some s5 => match l_xC s5 with
          | none => none
          | some s11 => XLa_endRule_44 s11) := by
    rw [X_line_eq, p_peek hX.1 kn (by omega), hvv]
    simp only [hb0]
  have hM0 : M_readsRule sM = (if v = 99 then (match M_readsCondition (ax_sI (l_S5 v sM) 72 r (nI c)) with
        | none => none
        | some (v2, s3) => if v2 = 0 then some ((0 : Int32), s3) else l_erM s3) else (match M_readsSum (l_S5 v sM) with
      | none => none
      | some (v4, s5) =>
        if v4 = 0 then some ((0 : Int32), s5) else
        if ((s5.2.1 63 13) < 0 ∨ 16 ≤ ((s5.2.1 63 13)).toNatClampNeg) then none else
        match M_readsCondition (ax_sI s5 72 ((s5.2.1 63 13)).toNatClampNeg (s5.2.1 63 11)) with
        | none => none
        | some (v6, s7) => if v6 = 0 then some ((0 : Int32), s7) else l_erM s7)) := by
    rw [M_rule_eq sM v (by rw [p_here hM kn (by omega), hvv]) hv]
    unfold l_rb
    rw [hM13, if_neg (by rw [q_16, z_eq (by omega) (by omega)]; omega), if_neg (l_in (k := r) (N := 16) (by omega) (by omega)), if_neg (l_in (k := r) (N := 16) (by omega) (by omega)), if_neg (l_in (k := r) (N := 16) (by omega) (by omega)), z_cl (by omega), hMc]
  -- from a state of both at the condition on
  have tail : ∀ (uX uM : ax_S) (b m1 : Nat) (V : (Nat → Int32) → Option Int32), a < b → b ≤ n → m1 + 1 ≤ b - a → l_cX B n b (c + m1) uX → uX.2.1 44 7 = nI r → t_M B n b uM → uM.2.1 63 11 = nI (c + m1) → uM.2.1 63 13 = nI r → uM.2.1 72 r = nI (c + m1) → uX.2.1 45 r = v → uX.2.1 46 r = nI c → uM.2.1 70 r = v → uM.2.1 71 r = nI c → (v ≠ 99 → l_oX uX c m1 V 30 ∧ l_oM uM c m1 V 30) → l_KR sX uX → l_NR sM uM → (∀ q, q ≠ r → l_sr q c sX uX sM uM) →
      (∃ b' m tX tM, b < b' ∧ b' ≤ n ∧ m ≤ b' - a ∧ (match XLa_beginCondition_44 uX with
        | none => none
        | some s5 => match l_xC s5 with
          | none => none
          | some s11 => XLa_endRule_44 s11) = some tX ∧ (match M_readsCondition uM with
        | none => none
        | some (v6, s7) => if v6 = 0 then some ((0 : Int32), s7) else l_erM s7) = some (1, tM) ∧ l_cX B n b' (c + m) tX ∧ tX.2.1 44 7 = nI (r + 1) ∧ t_M B n b' tM ∧ tM.2.1 63 11 = nI (c + m) ∧ tM.2.1 63 13 = nI (r + 1) ∧ l_dr tX tM r (c + m) ∧ (∀ q, q ≠ r → l_sr q c sX tX sM tM) ∧ l_KR sX tX ∧ l_NR sM tM) ∨
      (∃ tX tM, (match XLa_beginCondition_44 uX with
        | none => none
        | some s5 => match l_xC s5 with
          | none => none
          | some s11 => XLa_endRule_44 s11) = some tX ∧ (match M_readsCondition uM with
        | none => none
        | some (v6, s7) => if v6 = 0 then some ((0 : Int32), s7) else l_erM s7) = some (0, tM) ∧ t_F tX tM ∧ l_KR sX tX ∧ l_NR sM tM) := by
    intro uX uM b m1 V h1 h2 h3 h4 h5 h6 h7 h8 h9 h10 h11 h12 h13 h14 h15 h16 h17
    rw [X_bC h5 hr, h4.2]
    generalize hS2 : ax_sI uX 47 r (nI (c + m1)) = S2
    have g1 : ∀ k q, ¬ (k = 47 ∧ q = r) → S2.2.1 k q = uX.2.1 k q := fun k q h => by rw [← hS2]; exact r_one k q h
    have g47 : S2.2.1 47 r = nI (c + m1) := by rw [← hS2, r_Ie, r_u]
    have S2c : l_cX B n b (c + m1) S2 := ⟨⟨by rw [g1 _ _ (by omega)]; exact h4.1.1, by rw [g1 _ _ (by omega)]; exact h4.1.2.1, by rw [g1 _ _ (by omega)]; exact h4.1.2.2.1, fun k hk => by rw [g1 _ _ (by omega)]; exact h4.1.2.2.2 k hk⟩, by rw [g1 _ _ (by omega)]; exact h4.2⟩
    have kr2 : l_KR sX S2 := KR_tr h15 ⟨fun _ => g1 _ _ (by omega), fun k q e1 e2 e3 => g1 k q (by omega)⟩
    simp only []
    rcases l_condR hB hn h2 (by omega) (by omega) S2c h6 h7 with ⟨b', m2, W, tX, tM, s1, s2, s3, s4, s5, s6, s7, s8, s9, s10, s11, s12⟩ | ⟨tX, tM, s1, s2, s3, s4, s5, s6⟩
    · rw [s4, s5]
      simp only [z_10, if_false]
      have t7 : tX.2.1 44 7 = nI r := by rw [s11.1.2 _ _ (by omega) (by omega) (by omega) (by omega), g1 _ _ (by omega)]; exact h5
      have t13 : tM.2.1 63 13 = nI r := by rw [s12.1 _ _ (by omega) (by omega) (by omega)]; exact h8
      rw [X_eR t7 hr, s6.2]
      unfold l_erM
      rw [t13, if_neg (l_in (k := r) (N := 16) (by omega) (by omega)), z_cl (by omega), s8, z_1]
      generalize hS3 : ax_sI (ax_sI tX 48 r (nI (c + m1 + m2))) 44 7 (nI (r + 1)) = S3
      generalize hS4 : ax_sI (ax_sI tM 73 r (nI (c + m1 + m2))) 63 13 (nI (r + 1)) = S4
      have k1 : ∀ k q, ¬ (k = 48 ∧ q = r) → ¬ (k = 44 ∧ q = 7) → S3.2.1 k q = tX.2.1 k q := fun k q e1 e2 => by rw [← hS3]; exact r_two k q e1 e2
      have k2 : ∀ k q, ¬ (k = 73 ∧ q = r) → ¬ (k = 63 ∧ q = 13) → S4.2.1 k q = tM.2.1 k q := fun k q e1 e2 => by rw [← hS4]; exact r_two k q e1 e2
      have rowX : ∀ k, 45 ≤ k → k ≤ 47 → S3.2.1 k r = S2.2.1 k r := fun k e1 e2 => by rw [k1 _ _ (by omega) (by omega), s11.1.2 _ _ (by omega) (by omega) (by omega) (by omega)]
      have rowM : ∀ k, 70 ≤ k → k ≤ 72 → S4.2.1 k r = uM.2.1 k r := fun k e1 e2 => by rw [k2 _ _ (by omega) (by omega), s12.1 _ _ (by omega) (by omega) (by omega)]
      have cdX : ∀ i, i < c + m1 → S3.2.1 49 i = uX.2.1 49 i ∧ S3.2.1 50 i = uX.2.1 50 i := fun i hi => by
        rw [k1 _ _ (by omega) (by omega), k1 _ _ (by omega) (by omega), (s11.2 i hi).1, (s11.2 i hi).2, g1 _ _ (by omega), g1 _ _ (by omega)]
        exact ⟨rfl, rfl⟩
      have cdM : ∀ i, i < c + m1 → S4.2.1 68 i = uM.2.1 68 i := fun i hi => by
        rw [k2 _ _ (by omega) (by omega), s12.2.1 i hi]
      refine Or.inl ⟨b', m1 + m2, S3, S4, s1, s2, by omega, rfl, rfl, ⟨⟨?_, ?_, ?_, fun k hk => ?_⟩, ?_⟩, ?_, ⟨?_, ?_, fun k => ?_⟩, ?_, ?_, ?_, fun q hq => ?_, ?_, ?_⟩
      · rw [k1 _ _ (by omega) (by omega)]; exact s6.1.1
      · rw [k1 _ _ (by omega) (by omega)]; exact s6.1.2.1
      · rw [k1 _ _ (by omega) (by omega)]; exact s6.1.2.2.1
      · rw [k1 _ _ (by omega) (by omega)]; exact s6.1.2.2.2 k hk
      · rw [k1 _ _ (by omega) (by omega), ← Nat.add_assoc]; exact s6.2
      · rw [← hS3, r_Ie, r_u]
      · rw [k2 _ _ (by omega) (by omega)]; exact s7.1
      · rw [k2 _ _ (by omega) (by omega)]; exact s7.2.1
      · rw [k2 _ _ (by omega) (by omega)]; exact s7.2.2 k
      · rw [k2 _ _ (by omega) (by omega), ← Nat.add_assoc]; exact s8
      · rw [← hS4, r_Ie, r_u]
      · refine ⟨V, W, c, c + m1, c + m1 + m2, by omega, by omega, by omega, ?_, ?_, ?_, ?_, ?_, ?_, ?_, ?_, ?_, fun hk => ⟨?_, ?_⟩⟩
        · rw [rowX 46 (by omega) (by omega), g1 _ _ (by omega)]; exact h11
        · rw [rowX 47 (by omega) (by omega)]; exact g47
        · rw [← hS3, r_I (by omega), r_Ie, r_u]
        · rw [rowM 71 (by omega) (by omega)]; exact h13
        · rw [rowM 72 (by omega) (by omega)]; exact h9
        · rw [← hS4, r_I (by omega), r_Ie, r_u]
        · rw [rowX 45 (by omega) (by omega), g1 _ _ (by omega), rowM 70 (by omega) (by omega), h10, h12]
        · rw [show c + m1 + m2 - (c + m1) = m2 by omega]
          exact seg_cg s9 fun q _ _ => ⟨k1 _ _ (by omega) (by omega), k1 _ _ (by omega) (by omega)⟩
        · rw [show c + m1 + m2 - (c + m1) = m2 by omega]
          exact sgM_cg s10 fun q _ _ => k2 _ _ (by omega) (by omega)
        · rw [rowX 45 (by omega) (by omega), g1 _ _ (by omega), h10] at hk
          rw [show c + m1 - c = m1 by omega]
          exact seg_cg (h14 hk).1 fun q _ hq => cdX q (by omega)
        · rw [rowX 45 (by omega) (by omega), g1 _ _ (by omega), h10] at hk
          rw [show c + m1 - c = m1 by omega]
          exact sgM_cg (h14 hk).2 fun q _ hq => cdM q (by omega)
      · obtain ⟨y1, y2, y3, y4⟩ := h17 q hq
        refine ⟨fun k e1 e2 => ?_, fun i hi => ⟨?_, ?_⟩, fun k e1 e2 => ?_, fun i hi => ?_⟩
        · rw [k1 _ _ (by omega) (by omega), s11.1.2 _ _ (by omega) (by omega) (by omega) (by omega), g1 _ _ (by omega)]; exact y1 k e1 e2
        · rw [(cdX i (by omega)).1]; exact (y2 i hi).1
        · rw [(cdX i (by omega)).2]; exact (y2 i hi).2
        · rw [k2 _ _ (by omega) (by omega), s12.1 _ _ (by omega) (by omega) (by omega)]; exact y3 k e1 e2
        · rw [cdM i (by omega)]; exact y4 i hi
      · exact KR_tr kr2 (KR_tr (KR_of s11.1) ⟨fun _ => k1 _ _ (by omega) (by omega), fun k q e1 e2 e3 => k1 k q (by omega) (by omega)⟩)
      · exact NR_tr h16 (NR_tr (NR_of s12.1) fun k q e1 e2 => k2 k q (by omega) (by omega))
    · rw [s1, s2]
      simp only [if_true]
      have t7 : tX.2.1 44 7 = nI r := by rw [s4.2 _ _ (by omega) (by omega) (by omega) (by omega), g1 _ _ (by omega)]; exact h5
      rw [X_eR t7 hr]
      refine Or.inr ⟨_, tM, rfl, rfl, ?_, KR_tr kr2 (KR_tr (KR_of s4) ⟨fun _ => r_two _ _ (by omega) (by omega), fun k q e1 e2 e3 => r_two k q (by omega) (by omega)⟩), NR_tr h16 (NR_of s6)⟩
      obtain ⟨q1, q2, q3, q4, q5, q6, q7⟩ := s3
      exact ⟨q1, q2, q3, q4, q5, by rw [r_two _ _ (by omega) (by omega)]; exact q6, q7⟩
  rw [hX0, hM0]
  by_cases c99 : v = 99
  · rw [if_pos c99]
    have j : XLaRe_readLine_j26 v S1 = some S1 := by unfold XLaRe_readLine_j26; rw [if_pos c99]
    rw [j]
    simp only []
    have w1 : ∀ k q, ¬ (k = 72 ∧ q = r) → (ax_sI (l_S5 v sM) 72 r (nI c)).2.1 k q = (l_S5 v sM).2.1 k q := fun k q h => r_one k q h
    rcases tail S1 (ax_sI (l_S5 v sM) 72 r (nI c)) (a + 1) 0 (fun _ => none) (by omega) (by omega) (by omega) S1c S17 ⟨by rw [w1 _ _ (by omega)]; exact p1.1.1, by rw [w1 _ _ (by omega)]; exact p1.1.2.1, fun k => by rw [w1 _ _ (by omega)]; exact p1.1.2.2 k⟩ (by rw [w1 _ _ (by omega)]; exact p1.2.1) (by rw [w1 _ _ (by omega)]; exact p2) (by rw [r_Ie, r_u]; rfl) f45 f46 (by rw [w1 _ _ (by omega)]; exact p3) (by rw [w1 _ _ (by omega)]; exact p4) (fun e => absurd c99 e) kr1 (NR_tr p6 fun k q e1 e2 => w1 k q (by omega)) (fun q hq => ⟨fun k e1 e2 => kr9 k q (by omega) (by omega) (Or.inl hq), fun i hi => ⟨kr9 49 i (by omega) (by omega) (Or.inr (by omega)), kr9 50 i (by omega) (by omega) (Or.inr (by omega))⟩, fun k e1 e2 => by rw [w1 _ _ (by omega)]; exact p5 k q (by omega) (by omega) (by omega), fun i hi => by rw [w1 _ _ (by omega)]; exact p5 68 i (by omega) (by omega) (by omega)⟩) with ⟨b', m, tX, tM, s1, s2, s3, s4, s5, s6⟩ | h
    · exact Or.inl ⟨b', m, tX, tM, by omega, s2, s3, s4, s5, s6⟩
    · exact Or.inr h
  · rw [if_neg c99]
    have j : XLaRe_readLine_j26 v S1 = XLaRe_rec 48 3 (nI 0) 0 S1 := by
      unfold XLaRe_readLine_j26
      rw [if_neg c99]
      show (match XLaRe_rec 48 3 (nI 0) 0 S1 with
        | none => none
        | some s3 => some s3) = XLaRe_rec 48 3 (nI 0) 0 S1
      cases XLaRe_rec 48 3 (nI 0) 0 S1 <;> rfl
    rw [j]
    rcases l_tsum hn ((l_recS hB hn 48 0 (by omega)).1 (by omega)) (a := a + 1) (w := 0) (by omega) (show c ≤ a + 1 by omega) (show c ≤ a + 1 by omega) (by omega) (Or.inl rfl) S1c p1 with ⟨b, m, V, tX, tM, s1, s2, s3, s4, s5, s6, s7, s8, s9, s10, s11⟩ | ⟨tX, tM, s1, s2, s3, s4, s5, s6⟩
    · have s4 : XLaRe_rec 48 3 (nI 0) 0 S1 = some tX := s4
      have t13 : tM.2.1 63 13 = nI r := by rw [s11.1 _ _ (by omega) (by omega) (by omega)]; exact p2
      rw [s4, s5]
      simp only [z_10, if_false]
      rw [t13, if_neg (l_in (k := r) (N := 16) (by omega) (by omega)), z_cl (by omega), s7.2.1]
      have w1 : ∀ k q, ¬ (k = 72 ∧ q = r) → (ax_sI tM 72 r (nI (c + m))).2.1 k q = tM.2.1 k q := fun k q h => r_one k q h
      have rX : ∀ k q, 45 ≤ k → k ≤ 48 → tX.2.1 k q = S1.2.1 k q := fun k q e1 e2 => s10.1.2 _ _ (by omega) (by omega) (by omega) (by omega)
      have rM : ∀ k q, 70 ≤ k → k ≤ 73 → tM.2.1 k q = (l_S5 v sM).2.1 k q := fun k q e1 e2 => s11.1 _ _ (by omega) (by omega) (by omega)
      rcases tail tX (ax_sI tM 72 r (nI (c + m))) b m V (by omega) s2 (by omega) s6 (by rw [s10.1.2 _ _ (by omega) (by omega) (by omega) (by omega)]; exact S17) ⟨by rw [w1 _ _ (by omega)]; exact s7.1.1, by rw [w1 _ _ (by omega)]; exact s7.1.2.1, fun k => by rw [w1 _ _ (by omega)]; exact s7.1.2.2 k⟩ (by rw [w1 _ _ (by omega)]; exact s7.2.1) (by rw [w1 _ _ (by omega)]; exact t13) (by rw [r_Ie, r_u]) (by rw [rX _ _ (by omega) (by omega)]; exact f45) (by rw [rX _ _ (by omega) (by omega)]; exact f46) (by rw [w1 _ _ (by omega), rM _ _ (by omega) (by omega)]; exact p3) (by rw [w1 _ _ (by omega), rM _ _ (by omega) (by omega)]; exact p4) (fun _ => ⟨oX_le s8 (by omega), sgM_cg (oM_le s9 (by omega)) fun q _ _ => w1 _ _ (by omega)⟩) (KR_tr kr1 (KR_of s10.1)) (NR_tr p6 (NR_tr (NR_of s11.1) fun k q e1 e2 => w1 k q (by omega))) (fun q hq => ⟨fun k e1 e2 => by rw [rX _ _ (by omega) (by omega)]; exact kr9 k q (by omega) (by omega) (Or.inl hq), fun i hi => ⟨by rw [(s10.2 i hi).1]; exact kr9 49 i (by omega) (by omega) (Or.inr (by omega)), by rw [(s10.2 i hi).2]; exact kr9 50 i (by omega) (by omega) (Or.inr (by omega))⟩, fun k e1 e2 => by rw [w1 _ _ (by omega), rM _ _ (by omega) (by omega)]; exact p5 k q (by omega) (by omega) (by omega), fun i hi => by rw [w1 _ _ (by omega), s11.2.1 i hi]; exact p5 68 i (by omega) (by omega) (by omega)⟩) with ⟨b', m', tX', tM', r1, r2, r3, r4, r5, r6⟩ | h
      · exact Or.inl ⟨b', m', tX', tM', by omega, r2, r3, r4, r5, r6⟩
      · exact Or.inr h
    · have s1 : XLaRe_rec 48 3 (nI 0) 0 S1 = some tX := s1
      rw [s1, s2]
      simp only [if_true]
      have t7 : tX.2.1 44 7 = nI r := by rw [s4.2 _ _ (by omega) (by omega) (by omega) (by omega)]; exact S17
      rw [X_bC t7 hr]
      simp only []
      have ok2 : l_ok (ax_sI tX 47 r (tX.2.1 44 8)) := by
        obtain ⟨k, k1, k2⟩ := s5
        exact ⟨k, k1, by rw [r_one _ _ (by omega)]; exact k2⟩
      obtain ⟨u, u1, u2, u3⟩ := la_xC _ ok2
      rw [u1]
      simp only []
      have u7 : u.2.1 44 7 = nI r := by rw [u2.2 _ _ (by omega) (by omega) (by omega) (by omega), r_one _ _ (by omega)]; exact t7
      rw [X_eR u7 hr]
      refine Or.inr ⟨_, tM, rfl, rfl, ?_, KR_tr kr1 (KR_tr (KR_of s4) (KR_tr ⟨fun _ => r_one _ _ (by omega), fun k q e1 e2 e3 => r_one k q (by omega)⟩ (KR_tr (KR_of u2) ⟨fun _ => r_two _ _ (by omega) (by omega), fun k q e1 e2 e3 => r_two k q (by omega) (by omega)⟩))), NR_tr p6 (NR_of s6)⟩
      obtain ⟨q1, q2, q3, q4, q5, q6, q7⟩ := s3
      have ne := (t_fc_ne q3 q4 q5).1
      refine ⟨q1, q2, q3, q4, q5, ?_, q7⟩
      have e1 : (ax_sI tX 47 r (tX.2.1 44 8)).2.1 1 5 = t_fc q1 q2 := by rw [r_one _ _ (by omega)]; exact q6
      rw [r_two _ _ (by omega) (by omega), u2.1 (by rw [e1]; exact ne)]
      exact e1
