/-! law: pieces of the class's code, put together -/
theorem l_seg_let {F G : Nat → Int32} {i c x : Nat} (h0 : F i = nI c) (hc : (c = 112 ∧ x = 0) ∨ (c = 118 ∧ x = 1) ∨ (c = 110 ∧ x = 2) ∨ (c = 115 ∧ x = 3) ∨ (c = 100 ∧ x = 4) ∨ (c = 116 ∧ x = 5)) : l_seg F G i 1 (fun E => some (E x)) 1 := by
  intro s h e n hF he he2 hh
  obtain ⟨f1, f2⟩ := hF i (Nat.le_refl i) (by omega)
  have hl : ∀ t, XLa_isLetter (nI c) t = 1 := fun t => by rcases hc with ⟨rfl, -⟩ | ⟨rfl, -⟩ | ⟨rfl, -⟩ | ⟨rfl, -⟩ | ⟨rfl, -⟩ | ⟨rfl, -⟩ <;> rfl
  have hn : ¬ nI c = 0 := by rw [z_eq0 (by omega)]; omega
  have hv : XLa_letterValue_36 (nI c) s = (s.2.1 36 (9 + x)).toInt64 := by
    rcases hc with ⟨rfl, rfl⟩ | ⟨rfl, rfl⟩ | ⟨rfl, rfl⟩ | ⟨rfl, rfl⟩ | ⟨rfl, rfl⟩ | ⟨rfl, rfl⟩ <;> rfl
  refine ⟨ax_sL s 43 h (s.2.1 36 (9 + x)).toInt64, ?_, rfl, fun q hq => by rw [l_lup, if_neg (by omega)], ?_⟩
  · rw [XLa_reckon_36_l9, if_neg (by rw [z_le (by omega) (by omega)]; omega), if_neg (by rw [q_256, z_le (by omega) (by omega)]; omega)]
    simp (disch := omega) only [z_cl, z_lt0, z_nle, or_self, if_false, f1, f2, h0, hn, hl, hv, z_10, z_1]
    rw [if_neg (by rw [show (64 : Int32) = nI 64 from rfl, z_le (by omega) (by omega)]; omega)]
  · rw [l_lup, if_pos rfl]
    show _ = (y_e (fun i => s.2.1 36 (9 + i)) x).toInt64
    unfold y_e
    rw [if_pos (by omega)]
def l_isop (c : Nat) : Prop := c = 38 ∨ c = 124 ∨ c = 37 ∨ c = 42 ∨ c = 43 ∨ c = 45 ∨ c = 47 ∨ c = 60 ∨ c = 62 ∨ c = 61
theorem l_seg_op {F G : Nat → Int32} {i m1 m2 c D1 D2 : Nat} {A B : (Nat → Int32) → Option Int32} (hA : l_seg F G i m1 A D1) (hB : l_seg F G (i + m1) m2 B D2) (h0 : F (i + m1 + m2) = nI c) (hc : l_isop c) : l_seg F G i (m1 + m2 + 1) (fun E => l_join c (A E) (B E)) (max (max D1 (D2 + 1)) 2) := by
  intro s h e n hF he he2 hh
  obtain ⟨t, a1, a2, a3, a4⟩ := hA s h e (n + 1 + m2) (fun q h1 h2 => hF q h1 (by omega)) (by omega) he2 (by omega)
  obtain ⟨u, b1, b2, b3, b4⟩ := hB t (h + 1) e (n + 1) (fun q h1 h2 => by rw [a2]; exact hF q (by omega) (by omega)) (by omega) he2 (by omega)
  obtain ⟨f1, f2⟩ := hF (i + m1 + m2) (by omega) (by omega)
  have hl : ∀ t, XLa_isLetter (nI c) t = 0 := fun t => by rcases hc with rfl | rfl | rfl | rfl | rfl | rfl | rfl | rfl | rfl | rfl <;> rfl
  have c256 : c < 256 := by rcases hc with rfl | rfl | rfl | rfl | rfl | rfl | rfl | rfl | rfl | rfl <;> decide
  have hn : ¬ nI c = 0 := by rw [z_eq0 (by omega)]; rcases hc with rfl | rfl | rfl | rfl | rfl | rfl | rfl | rfl | rfl | rfl <;> decide
  have h33 : ¬ nI c = 33 := by rcases hc with rfl | rfl | rfl | rfl | rfl | rfl | rfl | rfl | rfl | rfl <;> decide
  have u1 : u.2.1 41 (i + m1 + m2) = nI c := by rw [b2, a2, f1, h0]
  have v1 : u.2.2 43 h = l_x (A (y_e fun i => s.2.1 36 (9 + i))) := by rw [b3 h (by omega)]; exact a4
  have v2 : u.2.2 43 (h + 1) = l_x (B (y_e fun i => s.2.1 36 (9 + i))) := by rw [b4, a2]
  refine ⟨ax_sL u 43 h (l_x (l_join c (A (y_e fun i => s.2.1 36 (9 + i))) (B (y_e fun i => s.2.1 36 (9 + i))))), ?_, by show u.2.1 = _; rw [b2, a2], fun q hq => by rw [l_lup, if_neg (by omega), b3 q (by omega), a3 q hq], by rw [l_lup, if_pos rfl]⟩
  rw [show n + (m1 + m2 + 1) = n + 1 + m2 + m1 by omega, a1, b1, XLa_reckon_36_l9, if_neg (by rw [z_le (by omega) (by omega)]; omega), if_neg (by rw [q_256, z_le (by omega) (by omega)]; omega)]
  simp (disch := omega) only [z_cl, z_lt0, z_nle, or_self, if_false, u1, hn, hl, h33, if_true, z_1]
  rw [if_neg (by rw [q_2, z_lt (by omega) (by omega)]; omega), if_neg (by rw [show (64 : Int32) = nI 64 from rfl, z_lt (by omega) (by omega)]; omega)]
  have e1 : nI (h + 1 + 1) + (-1) = nI (h + 1) := z_m1 (k := h + 1 + 1) (by omega)
  have e2 : nI (h + 1) - 1 = nI h := z_sub (a := h + 1) (b := 1) (by omega)
  simp (disch := omega) only [e1, e2, z_cl, z_lt0, z_nle, or_self, if_false, v1, v2, l_joined c c256, z_1]
  rw [show i + (m1 + m2 + 1) = i + m1 + m2 + 1 by omega]
theorem l_seg_not {F G : Nat → Int32} {i m D : Nat} {A : (Nat → Int32) → Option Int32} (hA : l_seg F G i m A D) (hb : ∀ E, A E = none ∨ A E = some 0 ∨ A E = some 1) (h0 : F (i + m) = 33) : l_seg F G i (m + 1) (fun E => (A E).map fun v => 1 - v) (max D 1) := by
  intro s h e n hF he he2 hh
  obtain ⟨t, a1, a2, a3, a4⟩ := hA s h e (n + 1) (fun q h1 h2 => hF q h1 (by omega)) (by omega) he2 (by omega)
  obtain ⟨f1, f2⟩ := hF (i + m) (by omega) (by omega)
  have t1 : t.2.1 41 (i + m) = 33 := by rw [a2, f1, h0]
  have hl : ∀ t, XLa_isLetter 33 t = 0 := fun t => rfl
  have e2 : nI (h + 1) - 1 = nI h := z_sub (a := h + 1) (b := 1) (by omega)
  have go : XLa_reckon_36_l9 (n + (m + 1)) (nI e) (nI h) (nI i) s = if lg_cmp (t.2.2 43 h) 1099511627776 = 0 then XLa_reckon_36_l9 n (nI e) (nI (h + 1)) (nI (i + m + 1)) t else XLa_reckon_36_l9 n (nI e) (nI (h + 1)) (nI (i + m + 1)) (ax_sL t 43 h (1 - t.2.2 43 h)) := by
    rw [show n + (m + 1) = n + 1 + m by omega, a1, XLa_reckon_36_l9, if_neg (by rw [z_le (by omega) (by omega)]; omega), if_neg (by rw [q_256, z_le (by omega) (by omega)]; omega)]
    simp (disch := omega) only [z_cl, z_lt0, z_nle, or_self, if_false, t1, show ((33 : Int32) = 0) = False from eq_false (by decide), hl, if_true, z_1]
    rw [if_neg (by rw [q_1, z_lt (by omega) (by omega)]; omega), if_neg (by rw [show (64 : Int32) = nI 64 from rfl, z_lt (by omega) (by omega)]; omega)]
    simp (disch := omega) only [e2, z_cl, z_lt0, z_nle, or_self, if_false]
  rw [a4] at go
  rw [show i + (m + 1) = i + m + 1 by omega]
  generalize hE : (y_e fun i => s.2.1 36 (9 + i)) = E at go a4 ⊢
  rcases hb E with h1 | h1 | h1
  · rw [if_pos ((l_xn _).mpr h1)] at go
    exact ⟨t, go, a2, a3, by show _ = l_x ((A E).map _); rw [a4, h1]; rfl⟩
  · rw [if_neg (fun e => by rw [(l_xn _).mp e] at h1; cases h1)] at go
    exact ⟨_, go, a2, fun q hq => by rw [l_lup, if_neg (by omega), a3 q hq], by rw [l_lup, if_pos rfl]; show _ = l_x ((A E).map _); rw [h1]; decide⟩
  · rw [if_neg (fun e => by rw [(l_xn _).mp e] at h1; cases h1)] at go
    exact ⟨_, go, a2, fun q hq => by rw [l_lup, if_neg (by omega), a3 q hq], by rw [l_lup, if_pos rfl]; show _ = l_x ((A E).map _); rw [h1]; decide⟩
