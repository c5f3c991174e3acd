def ax_chQ (o : Nat) (q : Nat × Nat × Nat × Nat × List (Nat × Nat × Nat × Nat × Nat × Nat)) : Bool := bif Nat.beq q.2.2.1 8 then ax_is q.2.2.2.1 (.methodLink (ax_on o) q.1 Lib.objectInit) else bif Nat.beq q.2.2.1 9 then ax_is q.2.2.2.1 (.methodLink (ax_on o) q.1 arraycopyName) else bif Nat.ble 10 q.2.2.1 then ax_is q.2.2.2.1 (.methodLink (ax_on o) q.1 (ax_mn q.2.2.1)) && q.2.2.2.2.isEmpty else q.2.2.2.2.all (ax_chE o q.1 q.2.1 q.2.2.1 q.2.2.2.1)
theorem ax_cal_ok (o : Nat) : (ax_cal.getD o []).all (ax_chQ o) = true := by
  match o with
  | 0 => exact ax_cal0
  | 1 => exact ax_cal1
  | 2 => exact ax_cal2
  | 3 => exact ax_cal3
  | 4 => exact ax_cal4
  | 5 => exact ax_cal5
  | 6 => exact ax_cal6
  | 7 => exact ax_cal7
  | 8 => exact ax_cal8
  | 9 => exact ax_cal9
  | 10 => exact ax_cal10
  | 11 => exact ax_cal11
  | 12 => exact ax_cal12
  | 13 => exact ax_cal13
  | 14 => exact ax_cal14
  | 15 => exact ax_cal15
  | 16 => exact ax_cal16
  | n + 17 =>
    rw [ax_getD_len (n := 17) rfl (by omega)]
    rfl
theorem ax_nok (ν : Nat) (h : ν < 286) : ax_NOK ν := by
  by_cases h0 : ν < 40
  · have h1 := List.all_eq_true.mp ax_nok0 (ν - 0) (List.mem_range.mpr (by omega))
    rw [show ν - 0 + 0 = ν by omega] at h1
    exact ax_chN_ok h1
  by_cases h40 : ν < 80
  · have h1 := List.all_eq_true.mp ax_nok40 (ν - 40) (List.mem_range.mpr (by omega))
    rw [show ν - 40 + 40 = ν by omega] at h1
    exact ax_chN_ok h1
  by_cases h80 : ν < 120
  · have h1 := List.all_eq_true.mp ax_nok80 (ν - 80) (List.mem_range.mpr (by omega))
    rw [show ν - 80 + 80 = ν by omega] at h1
    exact ax_chN_ok h1
  by_cases h120 : ν < 160
  · have h1 := List.all_eq_true.mp ax_nok120 (ν - 120) (List.mem_range.mpr (by omega))
    rw [show ν - 120 + 120 = ν by omega] at h1
    exact ax_chN_ok h1
  by_cases h160 : ν < 190
  · have h1 := List.all_eq_true.mp ax_nok160 (ν - 160) (List.mem_range.mpr (by omega))
    rw [show ν - 160 + 160 = ν by omega] at h1
    exact ax_chN_ok h1
  by_cases h190 : ν < 198
  · have h1 := List.all_eq_true.mp ax_nok190 (ν - 190) (List.mem_range.mpr (by omega))
    rw [show ν - 190 + 190 = ν by omega] at h1
    exact ax_chN_ok h1
  by_cases h198 : ν < 206
  · have h1 := List.all_eq_true.mp ax_nok198 (ν - 198) (List.mem_range.mpr (by omega))
    rw [show ν - 198 + 198 = ν by omega] at h1
    exact ax_chN_ok h1
  by_cases h206 : ν < 214
  · have h1 := List.all_eq_true.mp ax_nok206 (ν - 206) (List.mem_range.mpr (by omega))
    rw [show ν - 206 + 206 = ν by omega] at h1
    exact ax_chN_ok h1
  by_cases h214 : ν < 222
  · have h1 := List.all_eq_true.mp ax_nok214 (ν - 214) (List.mem_range.mpr (by omega))
    rw [show ν - 214 + 214 = ν by omega] at h1
    exact ax_chN_ok h1
  by_cases h222 : ν < 230
  · have h1 := List.all_eq_true.mp ax_nok222 (ν - 222) (List.mem_range.mpr (by omega))
    rw [show ν - 222 + 222 = ν by omega] at h1
    exact ax_chN_ok h1
  by_cases h230 : ν < 238
  · have h1 := List.all_eq_true.mp ax_nok230 (ν - 230) (List.mem_range.mpr (by omega))
    rw [show ν - 230 + 230 = ν by omega] at h1
    exact ax_chN_ok h1
  by_cases h238 : ν < 246
  · have h1 := List.all_eq_true.mp ax_nok238 (ν - 238) (List.mem_range.mpr (by omega))
    rw [show ν - 238 + 238 = ν by omega] at h1
    exact ax_chN_ok h1
  by_cases h246 : ν < 254
  · have h1 := List.all_eq_true.mp ax_nok246 (ν - 246) (List.mem_range.mpr (by omega))
    rw [show ν - 246 + 246 = ν by omega] at h1
    exact ax_chN_ok h1
  by_cases h254 : ν < 262
  · have h1 := List.all_eq_true.mp ax_nok254 (ν - 254) (List.mem_range.mpr (by omega))
    rw [show ν - 254 + 254 = ν by omega] at h1
    exact ax_chN_ok h1
  by_cases h262 : ν < 270
  · have h1 := List.all_eq_true.mp ax_nok262 (ν - 262) (List.mem_range.mpr (by omega))
    rw [show ν - 262 + 262 = ν by omega] at h1
    exact ax_chN_ok h1
  by_cases h270 : ν < 278
  · have h1 := List.all_eq_true.mp ax_nok270 (ν - 270) (List.mem_range.mpr (by omega))
    rw [show ν - 270 + 270 = ν by omega] at h1
    exact ax_chN_ok h1
  by_cases h278 : ν < 286
  · have h1 := List.all_eq_true.mp ax_nok278 (ν - 278) (List.mem_range.mpr (by omega))
    rw [show ν - 278 + 278 = ν by omega] at h1
    exact ax_chN_ok h1
  exact absurd h (by omega)
theorem ax_chE_ok {o x n k p0 : Nat} {e : Nat × Nat × Nat × Nat × Nat × Nat} (h : ax_chE o x n k p0 e = true) (hc : e.1 = 99 ∨ True) : ax_CK o x n k e.1 e.2.1 := by
  unfold ax_chE at h
  simp only [Bool.and_eq_true] at h
  obtain ⟨h0, h⟩ := h
  refine ⟨ax_nok _ (ax_blt h0), ?_⟩
  split at h
  · simp only [Bool.and_eq_true] at h
    exact ⟨_, rfl, ax_chP_ok h.1.1.1, ax_is_in h.1.1.2, ax_is_in h.1.2, ax_is_in h.2⟩
  · split at h
    · rename_i r hr
      simp only [Bool.and_eq_true, decide_eq_true_eq] at h
      obtain ⟨⟨⟨⟨⟨h1, h2⟩, h3⟩, h4⟩, h5⟩, h6⟩ := h
      exact ⟨_, r.1, r.2.1, r.2.2, rfl, hr, h1, ax_chP_ok h2, ax_is_in h3, ax_is_in h4, ax_is_in h5, ax_is_in h6⟩
    · cases h
  · simp only [Bool.and_eq_true, decide_eq_true_eq] at h
    obtain ⟨⟨⟨⟨⟨h1, h2⟩, h3⟩, h4⟩, h5⟩, h6⟩ := h
    exact ⟨_, rfl, h1, h2, ax_chP_ok h3, ax_is_in h4, ax_is_in h5, ax_is_in h6⟩
  · split at h
    · rename_i q hq
      simp only [Bool.and_eq_true, decide_eq_true_eq] at h
      obtain ⟨⟨⟨h1, h2⟩, h3⟩, h4⟩ := h
      exact ⟨_, q.2.2.2, rfl, ax_chP_ok h2, by rw [← h1]; exact List.mem_of_getElem? hq, ax_is_in h3, ax_is_in h4⟩
    · cases h
  · split at h
    · rename_i q hq
      simp only [Bool.and_eq_true, decide_eq_true_eq] at h
      obtain ⟨⟨⟨⟨⟨h1, h1b⟩, h1c⟩, h2⟩, h3⟩, h4⟩ := h
      exact ⟨_, q.2.2.2, rfl, h1b, h1c, ax_chP_ok h2, by rw [← h1]; exact List.mem_of_getElem? hq, ax_is_in h3, ax_is_in h4⟩
    · cases h
  · split at h
    · rename_i z hz
      simp only [Bool.and_eq_true, decide_eq_true_eq] at h
      obtain ⟨⟨⟨⟨⟨⟨h1, h2⟩, h3⟩, h4⟩, h5⟩, h6⟩, h7⟩ := h
      exact ⟨z, (ax_md e.2.1).1.cls, h1, ax_chP_ok h2, ax_noMH_ok h3, ax_is_in h4, ax_is_in h5, by rw [← h1]; exact ax_is_in h6, ax_is_in h7⟩
    · cases h
  · simp only [Bool.and_eq_true, Bool.or_eq_true] at h
    obtain ⟨hk, h⟩ := h
    split at h
    · rename_i z hz
      split at h
      case h_2 => cases h
      case h_1 =>
      rename_i r hr
      split at h
      case h_2 => cases h
      case h_1 =>
      rename_i w1 owner w2 w3 hsm
      simp only [Bool.and_eq_true, Bool.or_eq_true, decide_eq_true_eq] at h
      obtain ⟨⟨⟨⟨⟨⟨⟨h1, h2⟩, h3⟩, h4⟩, h5⟩, h6⟩, h7⟩, h8⟩ := h
      have res : ∃ z y owner C T N, (ax_md e.2.1).1 = y ∧ ax_cl[e.1]? = some (C, T, N) ∧ (y = ⟨owner, z.name, z.desc⟩ ∨ (⟨owner, z.name, z.desc⟩ : MethodName) ∈ ax_dl) ∧ ax_par z n ∧ (owner ≠ "java/lang/invoke/MethodHandle" ∧ owner ≠ "java/lang/invoke/VarHandle") ∧ Jvm.Cond.methodLink (ax_on o) x z ∈ ax_tb ∧ Jvm.Cond.sameMethod z.cls owner z.name z.desc ∈ ax_tb ∧ Jvm.Cond.selects C z y ∈ ax_tb ∧ Jvm.Cond.instanceMethod y ∈ ax_tb ∧ Jvm.Cond.initialized y.cls ∈ ax_tb :=
        ⟨z, _, owner, r.1, r.2.1, r.2.2, rfl, hr, h1, ax_chP_ok h2, ax_noMH_ok h3, ax_is_in h4, ax_is_in h5, ax_is_in h6, ax_is_in h7, ax_is_in h8⟩
      rcases hk with hk | hk
      · have hk := Nat.eq_of_beq_eq_true hk
        subst hk
        exact res
      · have hk := Nat.eq_of_beq_eq_true hk
        subst hk
        exact res
    · cases h
theorem ax_T10 : ∀ o x n k p0 es, ax_ca o x = some (n, k, p0, es) → (k = 9 → Jvm.Cond.methodLink (ax_on o) x arraycopyName ∈ ax_tb) ∧ (k = 8 → Jvm.Cond.methodLink (ax_on o) x Lib.objectInit ∈ ax_tb) ∧ (k ≠ 8 → k ≠ 9 → ∀ ci ν, ax_pick ci es = some ν → ax_CK o x n k ci ν) := by
  intro o x n k p0 es h
  unfold ax_ca at h
  split at h
  · rename_i q hq
    have hq2 : q.2 = (n, k, p0, es) := Option.some.inj h
    have h1 := List.all_eq_true.mp (ax_cal_ok o) q (List.mem_of_find?_eq_some hq)
    have hx := ax_fst hq
    obtain ⟨x', n', k', p', es'⟩ := q
    cases hq2
    cases hx
    unfold ax_chQ at h1
    dsimp only at h1
    refine ⟨fun e => ?_, fun e => ?_, fun e8 e9 ci ν hp => ?_⟩
    · subst e
      exact ax_is_in h1
    · subst e
      exact ax_is_in h1
    · have b8 : Nat.beq k 8 = false := by
        cases hb : Nat.beq k 8 with
        | false => rfl
        | true => exact absurd (Nat.eq_of_beq_eq_true hb) e8
      have b9 : Nat.beq k 9 = false := by
        cases hb : Nat.beq k 9 with
        | false => rfl
        | true => exact absurd (Nat.eq_of_beq_eq_true hb) e9
      rw [b8, b9] at h1
      simp only [cond_false] at h1
      have b10 : Nat.ble 10 k = false := by
        cases hb : Nat.ble 10 k with
        | false => rfl
        | true =>
          rw [hb] at h1
          simp only [cond_true, Bool.and_eq_true, List.isEmpty_iff] at h1
          rw [h1.2] at hp
          cases hp
      rw [b10] at h1
      simp only [cond_false] at h1
      unfold ax_pick at hp
      split at hp
      · rename_i e he
        cases hp
        have h2 := List.all_eq_true.mp h1 e (List.mem_of_find?_eq_some he)
        have hc := ax_fst he
        have h3 := ax_chE_ok h2 (Or.inr trivial)
        rw [hc] at h3
        exact h3
      · cases hp
  · cases h
theorem ax_km1 : ∀ o x n k p0 es, ax_ca o x = some (n, k, p0, es) → 10 ≤ k → Jvm.Cond.methodLink (ax_on o) x (ax_mn k) ∈ ax_tb := by
  intro o x n k p0 es h h10
  unfold ax_ca at h
  split at h
  · rename_i q hq
    have hq2 : q.2 = (n, k, p0, es) := Option.some.inj h
    have h1 := List.all_eq_true.mp (ax_cal_ok o) q (List.mem_of_find?_eq_some hq)
    have hx := ax_fst hq
    obtain ⟨x', n', k', p', es'⟩ := q
    cases hq2
    cases hx
    unfold ax_chQ at h1
    dsimp only at h1
    have b8 : Nat.beq k 8 = false := by
      cases hb : Nat.beq k 8 with
      | false => rfl
      | true => exact absurd (Nat.eq_of_beq_eq_true hb) (by omega)
    have b9 : Nat.beq k 9 = false := by
      cases hb : Nat.beq k 9 with
      | false => rfl
      | true => exact absurd (Nat.eq_of_beq_eq_true hb) (by omega)
    rw [b8, b9, Nat.ble_eq_true_of_le h10] at h1
    simp only [cond_false, cond_true, Bool.and_eq_true] at h1
    exact ax_is_in h1.1
  · cases h
theorem ax_ms10 : ax_is 445 (.static (ax_mn 10)) = true := by decide +kernel
theorem ax_mc10 : ax_is 446 (.code Lib.Math.max.name Lib.Math.max.code 2 (some .int)) = true := by decide +kernel
theorem ax_ms11 : ax_is 442 (.static (ax_mn 11)) = true := by decide +kernel
theorem ax_mc11 : ax_is 443 (.code Lib.Math.min.name Lib.Math.min.code 2 (some .int)) = true := by decide +kernel
theorem ax_ms12 : ax_is 1011 (.static (ax_mn 12)) = true := by decide +kernel
theorem ax_mc12 : ax_is 1012 (.code Lib.Math.abs.name Lib.Math.abs.code 1 (some .int)) = true := by decide +kernel
theorem ax_ms13 : ax_is 783 (.static (ax_mn 13)) = true := by decide +kernel
theorem ax_mc13 : ax_is 784 (.code Lib.MathLoose.max_long.x Lib.MathLoose.max_long.code 4 (some .long)) = true := by decide +kernel
theorem ax_ms14 : ax_is 780 (.static (ax_mn 14)) = true := by decide +kernel
theorem ax_mc14 : ax_is 781 (.code Lib.MathLoose.min_long.x Lib.MathLoose.min_long.code 4 (some .long)) = true := by decide +kernel
theorem ax_mi : ax_is 114 (.initialized "java/lang/Math") = true := by decide +kernel
theorem ax_okm : ax_OKM := by
  refine ⟨ax_km1, fun k h1 h2 => ?_, ax_is_in ax_mi, ax_is_in ax_mc10, ax_is_in ax_mc11, ax_is_in ax_mc12, ax_is_in ax_mc13, ax_is_in ax_mc14⟩
  rcases (show k = 10 ∨ k = 11 ∨ k = 12 ∨ k = 13 ∨ k = 14 by omega) with rfl | rfl | rfl | rfl | rfl
  · exact ax_is_in ax_ms10
  · exact ax_is_in ax_ms11
  · exact ax_is_in ax_ms12
  · exact ax_is_in ax_ms13
  · exact ax_is_in ax_ms14
theorem ax_t1 : ax_is 668 (.native arraycopyName) = true := by decide +kernel
theorem ax_t2 : ax_is 667 (.static arraycopyName) = true := by decide +kernel
theorem ax_t3 : ax_is 115 (.initialized "java/lang/System") = true := by decide +kernel
theorem ax_t4 : ax_is 123 (.instanceMethod Lib.objectInit) = true := by decide +kernel
theorem ax_t5 : ax_is 124 (.code Lib.objectInit ⟨#[0xb1]⟩ 1 none) = true := by decide +kernel
theorem ax_ok : ax_OK := ⟨ax_T1, ax_T2, ax_T3, ax_T4, ⟨by decide, ax_T5⟩, ax_T6, ax_T7, ax_T8, ax_T9, ax_T10, ax_is_in ax_t1, ax_is_in ax_t2, ax_is_in ax_t3, ax_is_in ax_t4, ax_is_in ax_t5, ax_okm⟩
