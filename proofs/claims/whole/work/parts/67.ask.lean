/-! what the law says of a person, on both sides -/
theorem i_32 (x : Int32) : x.toInt64.toInt32 = x := by simp
theorem i_lt (x y : Int32) : (x.toInt64 < y.toInt64) ↔ x < y := by
  rw [Int64.lt_iff_toInt_lt, Int32.lt_iff_toInt_lt, Int32.toInt_toInt64, Int32.toInt_toInt64]
def t_clamp (m v : Int32) : Int32 := if 0 ≤ v then (if v ≤ m then v else m) else 0
theorem i_big (x : Int32) : ¬ x.toInt64 = 1099511627776 := fun e => by
  have h := congrArg Int64.toInt e
  rw [Int32.toInt_toInt64] at h
  have h1 := Int32.toInt_lt x
  have h2 : (1099511627776 : Int64).toInt = 1099511627776 := by decide
  omega
theorem i_clamp (m : Nat) (hm : m ≤ 99) (v : Int32) : ((if (if v.toInt64 < (nI m).toInt64 then v.toInt64 else (nI m).toInt64) < (0 : Int64) then (0 : Int64) else (if v.toInt64 < (nI m).toInt64 then v.toInt64 else (nI m).toInt64))).toInt32 = t_clamp (nI m) v := by
  have e0 : (0 : Int64) = (0 : Int32).toInt64 := by decide
  unfold t_clamp
  by_cases c1 : v < nI m
  · simp only [i_lt, if_pos c1]
    rw [if_pos (Int32.le_of_lt c1)]
    by_cases c2 : v < 0
    · rw [if_pos (by rw [e0, i_lt]; exact c2), if_neg (Int32.not_le.mpr c2)]; decide
    · rw [if_neg (by rw [e0, i_lt]; exact c2), if_pos (Int32.not_lt.mp c2), i_32]
  · simp only [i_lt, if_neg c1]
    have h2 := Int32.not_lt.mp c1
    rw [if_neg (by rw [e0, i_lt]; exact nI_pos (by omega)), i_32, if_pos (Int32.le_trans (nI_pos' (by omega)) h2)]
    by_cases c2 : v ≤ nI m
    · rw [if_pos c2]; exact Int32.le_antisymm h2 c2
    · rw [if_neg c2]
theorem i_cl (m : Nat) (hm : m ≤ 99) (v : Int32) : ∃ k, k ≤ m ∧ t_clamp (nI m) v = nI k := by
  unfold t_clamp
  by_cases c : 0 ≤ v
  · rw [if_pos c]
    by_cases d : v ≤ nI m
    · rw [if_pos d]
      have e1 := Int32.le_iff_toInt_le.mp c
      have e2 := Int32.le_iff_toInt_le.mp d
      rw [nI_toInt (by omega)] at e2
      have h0 : (0 : Int32).toInt = 0 := rfl
      refine ⟨v.toInt.toNat, by omega, Int32.toInt_inj.mp ?_⟩
      rw [nI_toInt (by omega)]
      omega
    · rw [if_neg d]; exact ⟨m, Nat.le_refl _, rfl⟩
  · rw [if_neg c]; exact ⟨0, Nat.zero_le _, rfl⟩
theorem t_first (P : Nat → Prop) (R : Nat) : (∃ q, q < R ∧ P q ∧ ∀ j, j < q → ¬ P j) ∨ ∀ q, q < R → ¬ P q := by
  by_cases h : ∃ q, q < R ∧ P q
  · obtain ⟨q, h1, h2⟩ := pk_least (fun q => q < R ∧ P q) h
    exact Or.inl ⟨q, h1.1, h1.2, fun j hj hp => h2 j hj ⟨by omega, hp⟩⟩
  · exact Or.inr fun q hq hp => h ⟨q, hq, hp⟩
theorem y_ask {f : Nat → Nat → Int32} (hL : y_law f) (kind : Int32) (hk : kind ≠ 99) (m : Nat) (hm : m ≤ 99) {tX tM : ax_S} (hX : y_sX f tX) (hM : y_sM f tM) (he : y_e (fun i => tX.2.1 36 (9 + i)) = y_e (tM.2.1 80)) :
    ∃ k t1 t2, k ≤ m ∧ XLa_ask_36 kind (nI m) tX = some (nI k, t1) ∧ t1.2.1 = tX.2.1 ∧ M_byLaw kind (nI m) tM = some (nI k, t2) ∧ ∀ c, c ≠ 79 → t2.2.1 c = tM.2.1 c := by
  obtain ⟨R, cv, ev, hR, e1, e2, e3, e4, e5⟩ := hL
  generalize hE : y_e (tM.2.1 80) = E at he
  have sX : ∀ t : ax_S, t.2.1 = tX.2.1 → y_sX f t := fun t ht c j hc => by rw [ht]; exact hX c j hc
  have sM : ∀ t : ax_S, (∀ c, c ≠ 79 → t.2.1 c = tM.2.1 c) → y_sM f t := fun t ht c j hc => by rw [ht c (by omega)]; exact hM c j hc
  have r7 : ∀ t : ax_S, t.2.1 = tX.2.1 → t.2.1 36 7 = nI R := fun t ht => by rw [ht, hX 36 7 (Or.inr ⟨rfl, Or.inl rfl⟩)]; exact e1
  have r14 : ∀ t : ax_S, (∀ c, c ≠ 79 → t.2.1 c = tM.2.1 c) → t.2.1 63 14 = nI R := fun t ht => by rw [ht 63 (by omega), hM 63 14 (Or.inr ⟨rfl, rfl⟩)]; exact e2
  have r37 : ∀ t : ax_S, t.2.1 = tX.2.1 → ∀ q, t.2.1 37 q = f 37 q := fun t ht q => by rw [ht]; exact hX 37 q (Or.inl (by omega))
  have r75 : ∀ t : ax_S, (∀ c, c ≠ 79 → t.2.1 c = tM.2.1 c) → ∀ q, q < R → t.2.1 75 q = f 37 q := fun t ht q hq => by rw [ht 75 (by omega), hM 75 q (Or.inl (by omega))]; exact (e3 q hq).symm
  -- one rule asked
  have qX : ∀ t : ax_S, t.2.1 = tX.2.1 → ∀ q, q < R → ∃ t1, XLa_holds_36 (nI q) t = some ((if cv q E = true then 1 else 0), t1) ∧ t1.2.1 = tX.2.1 := fun t ht q hq => by
    obtain ⟨⟨t1, h1, h2⟩, -⟩ := e4 q hq t (sX t ht)
    refine ⟨t1, ?_, h2.trans ht⟩
    rw [h1]
    have : y_e (fun i => t.2.1 36 (9 + i)) = E := by rw [ht]; exact he
    rw [this]
  have qM : ∀ t : ax_S, (∀ c, c ≠ 79 → t.2.1 c = tM.2.1 c) → ∀ q, q < R → ∃ v t1, M_comesTo (t.2.1 77 q) (t.2.1 78 q) t = some (v, t1) ∧ (∀ c, c ≠ 79 → t1.2.1 c = tM.2.1 c) ∧ (v = 1 ↔ cv q E = true) := fun t ht q hq => by
    obtain ⟨⟨v, t1, h1, h2, h3⟩, -⟩ := e5 q hq t (sM t ht)
    refine ⟨v, t1, h1, fun c hc => by rw [h2 c hc, ht c hc], ?_⟩
    rw [ht 80 (by omega), hE] at h3
    exact h3
  -- a step over a rule that is not taken
  have stX : ∀ n q (t : ax_S), t.2.1 = tX.2.1 → q < R → ¬ (f 37 q = kind ∧ cv q E = true) → ∃ t1, XLa_ask_36_l2 (n + 1) kind (nI m) (nI q) t = XLa_ask_36_l2 n kind (nI m) (nI (q + 1)) t1 ∧ t1.2.1 = tX.2.1 := fun n q t ht hq hP => by
    rw [XLa_ask_36_l2, r7 t ht, if_neg (by rw [z_le (by omega) (by omega)]; omega), if_neg (by rw [q_16, z_le (by omega) (by omega)]; omega)]
    simp (disch := omega) only [z_cl, z_lt0, z_nle, or_self, if_false, r37 t ht]
    by_cases c : f 37 q = kind
    · rw [if_pos c]
      obtain ⟨t1, h1, h2⟩ := qX t ht q hq
      rw [h1, if_neg (fun h => hP ⟨c, h⟩)]
      simp only [if_true, z_1]
      exact ⟨t1, rfl, h2⟩
    · rw [if_neg c, z_1]
      exact ⟨t, rfl, ht⟩
  have stM : ∀ n q (t : ax_S), (∀ c, c ≠ 79 → t.2.1 c = tM.2.1 c) → q < R → ¬ (f 37 q = kind ∧ cv q E = true) → ∃ t1, M_byLaw_l2 (n + 1) kind (nI m) (nI q) t = M_byLaw_l2 n kind (nI m) (nI (q + 1)) t1 ∧ ∀ c, c ≠ 79 → t1.2.1 c = tM.2.1 c := fun n q t ht hq hP => by
    rw [M_byLaw_l2, r14 t ht, if_neg (by rw [z_le (by omega) (by omega)]; omega)]
    simp (disch := omega) only [z_cl, z_lt0, z_nle, or_self, if_false]
    rw [r75 t ht q hq]
    by_cases c : f 37 q = kind
    · rw [if_pos c]
      obtain ⟨v, t1, h1, h2, h3⟩ := qM t ht q hq
      rw [h1]
      have hv : ¬ v = 1 := fun e => hP ⟨c, h3.mp e⟩
      simp only [hv, if_false, z_1]
      exact ⟨t1, rfl, h2⟩
    · rw [if_neg c, z_1]
      exact ⟨t, rfl, ht⟩
  rcases t_first (fun q => f 37 q = kind ∧ cv q E = true) R with ⟨q, hq, hP, hmin⟩ | hnone
  · obtain ⟨b, h1, t1, rfl, h2⟩ := z_for (fun n j (t : ax_S) => XLa_ask_36_l2 n kind (nI m) (nI j) t) q (fun j t => t.2.1 = tX.2.1) (fun b => ∃ t1, b = .inl (nI q, t1) ∧ t1.2.1 = tX.2.1) (fun n t ht => by
        show ∃ b, XLa_ask_36_l2 (n + 1) kind (nI m) (nI q) t = some b ∧ _
        rw [XLa_ask_36_l2, r7 t ht, if_neg (by rw [z_le (by omega) (by omega)]; omega), if_neg (by rw [q_16, z_le (by omega) (by omega)]; omega)]
        simp (disch := omega) only [z_cl, z_lt0, z_nle, or_self, if_false, r37 t ht]
        obtain ⟨t1, h1, h2⟩ := qX t ht q hq
        rw [if_pos hP.1, h1, if_pos hP.2]
        simp only [z_10, if_false]
        exact ⟨_, rfl, t1, rfl, h2⟩) (fun n j t hj ht => Or.inr (stX n j t ht (by omega) (hmin j hj))) 70000 0 tX (by omega) rfl (by omega)
    obtain ⟨b, g1, t2, rfl, g2⟩ := z_for (fun n j (t : ax_S) => M_byLaw_l2 n kind (nI m) (nI j) t) q (fun j t => ∀ c, c ≠ 79 → t.2.1 c = tM.2.1 c) (fun b => ∃ t1, b = .inl (nI q, t1) ∧ ∀ c, c ≠ 79 → t1.2.1 c = tM.2.1 c) (fun n t ht => by
        show ∃ b, M_byLaw_l2 (n + 1) kind (nI m) (nI q) t = some b ∧ _
        rw [M_byLaw_l2, r14 t ht, if_neg (by rw [z_le (by omega) (by omega)]; omega)]
        simp (disch := omega) only [z_cl, z_lt0, z_nle, or_self, if_false]
        rw [r75 t ht q hq, if_pos hP.1]
        obtain ⟨v, t1, h1, h2, h3⟩ := qM t ht q hq
        rw [h1, h3.mpr hP.2]
        simp only [if_true]
        exact ⟨_, rfl, t1, rfl, h2⟩) (fun n j t hj ht => Or.inr (stM n j t ht (by omega) (hmin j hj))) 70000 0 tM (by omega) (fun _ _ => rfl) (by omega)
    have hk99 : f 37 q ≠ 99 := by rw [hP.1]; exact hk
    obtain ⟨v, u1, i1, i2, i3⟩ := (e4 q hq t1 (sX t1 h2)).2 hk99
    obtain ⟨u2, j1, j2⟩ := (e5 q hq t2 (sM t2 g2)).2 hk99
    have hE1 : y_e (fun i => t1.2.1 36 (9 + i)) = E := by rw [h2]; exact he
    have hE2 : y_e (t2.2.1 80) = E := by rw [g2 80 (by omega)]; exact hE
    rw [hE1] at i3
    rw [hE2] at j1
    obtain ⟨k, hk1, hk2⟩ := i_cl m hm (ev q E)
    refine ⟨k, u1, u2, hk1, ?_, i2.trans h2, ?_, fun c hc => by rw [j2 c hc, g2 c hc]⟩
    · unfold XLa_ask_36
      have h1 : XLa_ask_36_l2 70000 kind (nI m) 0 tX = some (.inl (nI q, t1)) := h1
      rw [h1]
      simp (disch := omega) only [z_cl, z_lt0, z_nle, or_self, if_false, i1]
      rw [← hk2]
      rcases i3 with ⟨rfl, i3⟩ | rfl
      · rw [if_pos ((lg_cmp_eq _ _).mpr rfl), i3]
        unfold t_clamp
        rw [if_pos (by decide), if_pos (nI_pos' (by omega))]
      · rw [if_neg (fun h => i_big _ ((lg_cmp_eq _ _).mp h)), i_clamp m hm]
    · unfold M_byLaw
      have g1 : M_byLaw_l2 70000 kind (nI m) 0 tM = some (.inl (nI q, t2)) := g1
      rw [g1]
      simp (disch := omega) only [z_cl, z_lt0, z_nle, or_self, if_false, j1]
      rw [← hk2]
      unfold t_clamp
      split
      · split <;> rfl
      · rfl
  · obtain ⟨b, h1, t1, rfl, h2⟩ := z_for (fun n j (t : ax_S) => XLa_ask_36_l2 n kind (nI m) (nI j) t) R (fun j t => t.2.1 = tX.2.1) (fun b => ∃ t1, b = .inr (0, t1) ∧ t1.2.1 = tX.2.1) (fun n t ht => by
        show ∃ b, XLa_ask_36_l2 (n + 1) kind (nI m) (nI R) t = some b ∧ _
        rw [XLa_ask_36_l2, r7 t ht, if_pos (by rw [z_le (by omega) (by omega)]; omega)]
        exact ⟨_, rfl, t, rfl, ht⟩) (fun n j t hj ht => Or.inr (stX n j t ht hj (hnone j hj))) 70000 0 tX (by omega) rfl (by omega)
    obtain ⟨b, g1, t2, rfl, g2⟩ := z_for (fun n j (t : ax_S) => M_byLaw_l2 n kind (nI m) (nI j) t) R (fun j t => ∀ c, c ≠ 79 → t.2.1 c = tM.2.1 c) (fun b => ∃ t1, b = .inr (0, t1) ∧ ∀ c, c ≠ 79 → t1.2.1 c = tM.2.1 c) (fun n t ht => by
        show ∃ b, M_byLaw_l2 (n + 1) kind (nI m) (nI R) t = some b ∧ _
        rw [M_byLaw_l2, r14 t ht, if_pos (by rw [z_le (by omega) (by omega)]; omega)]
        exact ⟨_, rfl, t, rfl, ht⟩) (fun n j t hj ht => Or.inr (stM n j t ht hj (hnone j hj))) 70000 0 tM (by omega) (fun _ _ => rfl) (by omega)
    refine ⟨0, t1, t2, by omega, ?_, h2, ?_, g2⟩
    · unfold XLa_ask_36
      have h1 : XLa_ask_36_l2 70000 kind (nI m) 0 tX = some (.inr (0, t1)) := h1
      rw [h1]; rfl
    · unfold M_byLaw
      have g1 : M_byLaw_l2 70000 kind (nI m) 0 tM = some (.inr (0, t2)) := g1
      rw [g1]; rfl
