/-! the first store: the invariant, the references -/
theorem i_y {f : Nat → Nat → Int32} (h : iH 83 f iL_244) : y_inv f := by
  have e : ∀ k, k < 83 → f k = iL_244.getD k (fun _ => (0 : Int32)) := h.2
  have x5 : ∀ i, i < 12 → f 5 i = -1 := by rw [e 5 (by decide)]; decide +kernel
  have x10 : ∀ i, i < 16 → f 10 i = 0 := by rw [e 10 (by decide)]; decide +kernel
  have x11 : ∀ i, i < 16 → f 11 i = 0 := by rw [e 11 (by decide)]; decide +kernel
  have x12 : ∀ i, i < 16 → f 12 i = 0 := by rw [e 12 (by decide)]; decide +kernel
  have x13 : ∀ i, i < 180 → f 13 i = 0 := by rw [e 13 (by decide)]; decide +kernel
  have m0 : ∀ i, i < 12 → f 64 i = -1 := by rw [e 64 (by decide)]; decide +kernel
  have m60 : ∀ i, i < 16 → f 64 (60 + i) = 0 := by rw [e 64 (by decide)]; decide +kernel
  have m76 : ∀ i, i < 16 → f 64 (76 + i) = 0 := by rw [e 64 (by decide)]; decide +kernel
  have m92 : ∀ i, i < 16 → f 64 (92 + i) + 1 = 0 := by rw [e 64 (by decide)]; decide +kernel
  have m108 : ∀ i, i < 180 → f 64 (108 + i) = 0 := by rw [e 64 (by decide)]; decide +kernel
  refine ⟨⟨fun i hi => ?_, fun p hp => ⟨?_, ⟨0, by omega, ?_⟩, ?_, ?_⟩, fun j w hj hw => ?_, ⟨0, 1, by omega, by omega, ?_, ?_, ?_, ?_, ?_⟩⟩, Or.inl ⟨?_, ?_⟩, ⟨50, by omega, ?_, ?_⟩, ⟨0, by omega, ?_, ?_, fun k hk => absurd hk (Nat.not_lt_zero _)⟩, ?_, ?_, ?_, ?_⟩
  · have a : vX f (3 + 2) 0 i = -1 := x5 i hi
    have b : vM f 64 0 i = -1 := by show f 64 (12 * 0 + i) = -1; rw [Nat.mul_zero, Nat.zero_add]; exact m0 i hi
    exact ⟨by rw [a, b], Or.inl b⟩
  · show f 10 p = _
    rw [x10 p hp, m60 p hp]
  · rw [m60 p hp]; rfl
  · show f 11 p = _
    rw [x11 p hp, m76 p hp]
  · show f 12 p = _
    rw [x12 p hp, m92 p hp]
  · show f 13 _ = _
    rw [x13 _ (by omega), show 108 + 30 * w + j = 108 + (30 * w + j) by omega, m108 _ (by omega)]
  · rw [e 3 (by decide)]; decide +kernel
  · rw [e 64 (by decide)]; decide +kernel
  · rw [e 64 (by decide)]; decide +kernel
  · rw [e 3 (by decide)]; decide +kernel
  · rw [e 64 (by decide)]; decide +kernel
  · rw [e 0 (by decide)]; decide +kernel
  · rw [e 63 (by decide)]; decide +kernel
  · rw [e 0 (by decide)]; decide +kernel
  · rw [e 63 (by decide)]; decide +kernel
  · rw [e 1 (by decide)]; decide +kernel
  · rw [e 63 (by decide)]; decide +kernel
  · have a : f 36 7 = nI 0 := by rw [e 36 (by decide)]; decide +kernel
    have b : f 63 14 = nI 0 := by rw [e 63 (by decide)]; decide +kernel
    exact l_mk (R := 0) (by omega) a b (fun q hq => absurd hq (Nat.not_lt_zero _)) (fun q hq => absurd hq (Nat.not_lt_zero _))
  · rw [e 52 (by decide)]; decide +kernel
  · rw [e 53 (by decide)]; decide +kernel
  · rw [e 54 (by decide)]; decide +kernel
/-- every field that holds a reference has been put -/
def i_ok (k ci : Nat) : Bool := (List.range (ax_kdl.getD ci []).length).all fun j => !(Nat.beq (ax_kd ci j) 2) || decide (iL_244.getD k (fun _ => (0 : Int32)) j ≠ 0)
def i_all : Bool := (List.range 83).all fun k => match ax_sh k with
  | .inl ci => i_ok k ci
  | .inr _ => true
theorem i_all_ok : i_all = true := by decide +kernel
theorem i_ref {f : Nat → Nat → Int32} (h : iH 83 f iL_244) {k ci j : Nat} (hk : k < 83) (hs : ax_sh k = .inl ci) (hj : ax_kd ci j = 2) : f k j ≠ 0 := by
  have h1 := List.all_eq_true.mp i_all_ok k (List.mem_range.mpr hk)
  simp only [hs] at h1
  have hl : j < (ax_kdl.getD ci []).length := by
    by_cases c : j < (ax_kdl.getD ci []).length
    · exact c
    · unfold ax_kd at hj
      rw [List.getD_eq_getElem?_getD, List.getElem?_eq_none (by omega)] at hj
      exact absurd hj (by decide)
  have h2 := List.all_eq_true.mp h1 j (List.mem_range.mpr hl)
  rw [hj] at h2
  rw [h.2 k hk]
  simpa using h2
/-- the store's cells, seen with references in place -/
theorem i_wd {D : va_G} {cA : Nat → ClassId} {b : Nat} {f : Nat → Nat → Int32} {g : Nat → Nat → Int64} {H : Heap} (h : iH 83 f iL_244) (hw : ax_wd D cA b false (83, f, g) H) : ax_wd D cA b true (83, f, g) H := by
  refine ⟨hw.1, fun _ => rfl, fun k hk => ?_⟩
  have hk : k < 83 := hk
  have h1 := hw.2.2 k hk
  unfold ax_ce at h1 ⊢
  cases hs : ax_sh k with
  | inr q =>
    simp only [hs] at h1
    exact h1
  | inl ci =>
    simp only [hs] at h1
    obtain ⟨r, r1, r2⟩ := h1
    refine ⟨r, r1, r2.to fun j _ => ?_⟩
    unfold ax_fv
    by_cases hj : ax_kd ci j = 2
    · have := i_ref h hk hs hj
      rw [hj]
      simp only []
      rw [if_pos (Or.inr this), if_pos (Or.inl trivial)]
    · generalize ax_kd ci j = q at hj
      match q, hj with
      | 0, _ => rfl
      | 1, _ => rfl
      | 2, hj => exact absurd rfl hj
      | q + 3, _ => rfl
