/-! law: two laws whose rules' codes say the same are the same law -/
/-- rule q of both: E by V, C by W -/
def l_rule (f : Nat → Nat → Int32) (q : Nat) (V W : (Nat → Int32) → Option Int32) : Prop :=
  (∃ b m D F G, f 39 q = nI b ∧ f 40 q = nI (b + m) ∧ l_seg F G b m W D ∧ D ≤ 64 ∧ b + m ≤ 256 ∧ ∀ i, b ≤ i → i < b + m → f 41 i = F i ∧ f 42 i = G i) ∧
  (∃ b m D F, f 77 q = nI b ∧ f 78 q = nI (b + m) ∧ l_sgM F b m W D ∧ D ≤ 260 ∧ b + m < 260 ∧ ∀ i, b ≤ i → i < b + m → f 74 i = F i) ∧
  (f 37 q ≠ 99 → (∃ a m D F G, f 38 q = nI a ∧ f 39 q = nI (a + m) ∧ l_seg F G a m V D ∧ D ≤ 64 ∧ a + m ≤ 256 ∧ ∀ i, a ≤ i → i < a + m → f 41 i = F i ∧ f 42 i = G i) ∧
    (∃ a m D F, f 76 q = nI a ∧ f 77 q = nI (a + m) ∧ l_sgM F a m V D ∧ D ≤ 260 ∧ a + m < 260 ∧ ∀ i, a ≤ i → i < a + m → f 74 i = F i))
theorem l_mk {f : Nat → Nat → Int32} {R : Nat} (hR : R ≤ 16) (h1 : f 36 7 = nI R) (h2 : f 63 14 = nI R) (h3 : ∀ q, q < R → f 37 q = f 75 q) (h : ∀ q, q < R → ∃ V W, l_rule f q V W) : y_law f := by
  have h' : ∀ q, ∃ VW : ((Nat → Int32) → Option Int32) × ((Nat → Int32) → Option Int32), q < R → l_rule f q VW.1 VW.2 := fun q => by
    by_cases c : q < R
    · obtain ⟨V, W, hq⟩ := h q c
      exact ⟨(V, W), fun _ => hq⟩
    · exact ⟨(fun _ => none, fun _ => none), fun x => absurd x c⟩
  obtain ⟨VW, hVW⟩ := Classical.axiomOfChoice h'
  refine ⟨R, fun q E => decide ((VW q).2 E = some 1), fun q E => ((VW q).1 E).getD 0, hR, h1, h2, h3, fun q hq t ht => ?_, fun q hq t ht => ?_⟩
  · obtain ⟨⟨b, m, D, F, G, b1, b2, b3, b4, b5, b6⟩, -, hE⟩ := hVW q hq
    have rows : ∀ c i, (37 ≤ c ∧ c ≤ 42) → t.2.1 c i = f c i := fun c i hc => ht c i (Or.inl hc)
    refine ⟨?_, fun hk => ?_⟩
    · obtain ⟨t1, r1, r2⟩ := l_run b3 b4 b5 t (fun i i1 i2 => by rw [rows 41 i (by omega), rows 42 i (by omega)]; exact b6 i i1 i2)
      refine ⟨t1, ?_, r2⟩
      unfold XLa_holds_36
      rw [if_neg (nI_pos (by omega)), if_neg (by rw [q_16, z_le (by omega) (by omega)]; omega), if_neg (l_in (k := q) (N := 16) (by omega) (by omega)), if_neg (l_in (k := q) (N := 16) (by omega) (by omega)), z_cl (by omega), rows 39 q (by omega), rows 40 q (by omega), b1, b2, r1]
      simp only []
      by_cases c : (VW q).2 (y_e fun i => t.2.1 36 (9 + i)) = some 1
      · rw [if_pos ((l_x1 _).mpr c), if_pos (by simpa using c)]
      · rw [if_neg (fun x => c ((l_x1 _).mp x)), if_neg (by simpa using c)]
    · obtain ⟨⟨a, m, D, F, G, a1, a2, a3, a4, a5, a6⟩, -⟩ := hE hk
      obtain ⟨t1, r1, r2⟩ := l_run a3 a4 a5 t (fun i i1 i2 => by rw [rows 41 i (by omega), rows 42 i (by omega)]; exact a6 i i1 i2)
      refine ⟨_, t1, by rw [rows 38 q (by omega), rows 39 q (by omega), a1, a2]; exact r1, r2, ?_⟩
      cases hv : (VW q).1 (y_e fun i => t.2.1 36 (9 + i)) with
      | none => exact Or.inl ⟨rfl, by show ((VW q).1 (y_e fun i => t.2.1 36 (9 + i))).getD 0 = 0; rw [hv]; rfl⟩
      | some v => exact Or.inr (by show _ = (((VW q).1 (y_e fun i => t.2.1 36 (9 + i))).getD 0).toInt64; rw [hv]; rfl)
  · obtain ⟨-, ⟨b, m, D, F, b1, b2, b3, b4, b5, b6⟩, hE⟩ := hVW q hq
    have rows : ∀ c i, (74 ≤ c ∧ c ≤ 78) → t.2.1 c i = f c i := fun c i hc => ht c i (Or.inl hc)
    refine ⟨?_, fun hk => ?_⟩
    · obtain ⟨t1, r1, r2⟩ := l_runM b3 b4 b5 t (fun i i1 i2 => by rw [rows 74 i (by omega)]; exact b6 i i1 i2)
      refine ⟨_, t1, by rw [rows 77 q (by omega), rows 78 q (by omega), b1, b2]; exact r1, r2, ?_⟩
      show _ ↔ decide ((VW q).2 (y_e (t.2.1 80)) = some 1) = true
      cases hv : (VW q).2 (y_e (t.2.1 80)) with
      | none => exact ⟨fun x => absurd x (show ¬ (0 : Int32) = 1 by decide), fun x => absurd x (by simp)⟩
      | some v => simp
    · obtain ⟨-, a, m, D, F, a1, a2, a3, a4, a5, a6⟩ := hE hk
      obtain ⟨t1, r1, r2⟩ := l_runM a3 a4 a5 t (fun i i1 i2 => by rw [rows 74 i (by omega)]; exact a6 i i1 i2)
      exact ⟨t1, by rw [rows 76 q (by omega), rows 77 q (by omega), a1, a2]; exact r1, r2⟩
