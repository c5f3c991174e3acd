/-! law: configurations of both readers, pieces of code that lie in a store -/
def l_cX (B : Nat → Nat) (n a c : Nat) (s : ax_S) : Prop := t_X B n a s ∧ s.2.1 44 8 = nI c
def l_cM (B : Nat → Nat) (n a c w d : Nat) (s : ax_S) : Prop := t_M B n a s ∧ s.2.1 63 11 = nI c ∧ s.2.1 63 12 = nI w ∧ s.2.1 63 10 = nI d
def l_gX (c : Nat) (s t : ax_S) : Prop := l_K s t ∧ ∀ q, q < c → t.2.1 49 q = s.2.1 49 q ∧ t.2.1 50 q = s.2.1 50 q
def l_N (s t : ax_S) : Prop := ∀ c j, ¬ (c = 63 ∧ (6 ≤ j ∧ j ≤ 12 ∧ j ≠ 7)) → c ≠ 68 → c ≠ 69 → t.2.1 c j = s.2.1 c j
def l_gM (c w : Nat) (s t : ax_S) : Prop := l_N s t ∧ (∀ q, q < c → t.2.1 68 q = s.2.1 68 q) ∧ ∀ q, q < w → t.2.1 69 q = s.2.1 69 q
def l_oX (t : ax_S) (i m : Nat) (V : (Nat → Int32) → Option Int32) (D : Nat) : Prop := l_seg (t.2.1 49) (t.2.1 50) i m V D
def l_oM (t : ax_S) (i m : Nat) (V : (Nat → Int32) → Option Int32) (D : Nat) : Prop := l_sgM (t.2.1 68) i m V D
theorem lN_refl (s : ax_S) : l_N s s := fun _ _ _ _ _ => rfl
theorem lN_tr {s t u : ax_S} (h : l_N s t) (h2 : l_N t u) : l_N s u := fun c j a b d => by rw [h2 c j a b d, h c j a b d]
theorem lN_of {s t : ax_S} (h : t_N s t) : l_N s t := fun c j a _ _ => h c j (by omega)
theorem gX_refl (c : Nat) (s : ax_S) : l_gX c s s := ⟨lK_refl s, fun _ _ => ⟨rfl, rfl⟩⟩
theorem gX_tr {c c2 : Nat} {s t u : ax_S} (h : l_gX c s t) (h2 : l_gX c2 t u) (e : c ≤ c2) : l_gX c s u :=
  ⟨lK_tr h.1 h2.1, fun q hq => by rw [(h2.2 q (by omega)).1, (h2.2 q (by omega)).2]; exact h.2 q hq⟩
theorem gX_of {s t : ax_S} (c : Nat) (h : t_K s t) : l_gX c s t := ⟨lK_of h, fun q _ => ⟨h.2 49 q (by omega), h.2 50 q (by omega)⟩⟩
theorem gX_le {c c2 : Nat} {s t : ax_S} (h : l_gX c2 s t) (e : c ≤ c2) : l_gX c s t := ⟨h.1, fun q hq => h.2 q (by omega)⟩
theorem gM_refl (c w : Nat) (s : ax_S) : l_gM c w s s := ⟨lN_refl s, fun _ _ => rfl, fun _ _ => rfl⟩
theorem gM_tr {c c2 w w2 : Nat} {s t u : ax_S} (h : l_gM c w s t) (h2 : l_gM c2 w2 t u) (e : c ≤ c2) (e2 : w ≤ w2) : l_gM c w s u :=
  ⟨lN_tr h.1 h2.1, fun q hq => by rw [h2.2.1 q (by omega)]; exact h.2.1 q hq, fun q hq => by rw [h2.2.2 q (by omega)]; exact h.2.2 q hq⟩
theorem gM_le {c c2 w w2 : Nat} {s t : ax_S} (h : l_gM c2 w2 s t) (e : c ≤ c2) (e2 : w ≤ w2) : l_gM c w s t := ⟨h.1, fun q hq => h.2.1 q (by omega), fun q hq => h.2.2 q (by omega)⟩
theorem gM_of {s t : ax_S} (c w : Nat) (h : t_N s t) : l_gM c w s t := ⟨lN_of h, fun q _ => h 68 q (by omega), fun q _ => h 69 q (by omega)⟩
theorem seg_cg {F G F' G' : Nat → Int32} {i m D : Nat} {V : (Nat → Int32) → Option Int32} (h : l_seg F G i m V D) (e : ∀ q, i ≤ q → q < i + m → F' q = F q ∧ G' q = G q) : l_seg F' G' i m V D :=
  fun s hh e2 n hF => h s hh e2 n fun q a b => by rw [(hF q a b).1, (hF q a b).2]; exact e q a b
theorem sgM_cg {F F' : Nat → Int32} {i m D : Nat} {V : (Nat → Int32) → Option Int32} (h : l_sgM F i m V D) (e : ∀ q, i ≤ q → q < i + m → F' q = F q) : l_sgM F' i m V D :=
  fun s hh e2 n hF => h s hh e2 n fun q a b => by rw [hF q a b]; exact e q a b
theorem seg_le {F G : Nat → Int32} {i m D D2 : Nat} {V : (Nat → Int32) → Option Int32} (h : l_seg F G i m V D) (e : D ≤ D2) : l_seg F G i m V D2 :=
  fun s hh e2 n hF a b c => h s hh e2 n hF a b (by omega)
theorem sgM_le {F : Nat → Int32} {i m D D2 : Nat} {V : (Nat → Int32) → Option Int32} (h : l_sgM F i m V D) (e : D ≤ D2) : l_sgM F i m V D2 :=
  fun s hh e2 n hF a b c => h s hh e2 n hF a b (by omega)
theorem oX_cg {t u : ax_S} {i m D c : Nat} {V : (Nat → Int32) → Option Int32} (h : l_oX t i m V D) (g : l_gX c t u) (e : i + m ≤ c) : l_oX u i m V D :=
  seg_cg h fun q _ b => g.2 q (by omega)
theorem oM_cg {t u : ax_S} {i m D c w : Nat} {V : (Nat → Int32) → Option Int32} (h : l_oM t i m V D) (g : l_gM c w t u) (e : i + m ≤ c) : l_oM u i m V D :=
  sgM_cg h fun q _ b => g.2.1 q (by omega)
theorem oX_le {t : ax_S} {i m D D2 : Nat} {V : (Nat → Int32) → Option Int32} (h : l_oX t i m V D) (e : D ≤ D2) : l_oX t i m V D2 := seg_le h e
theorem oM_le {t : ax_S} {i m D D2 : Nat} {V : (Nat → Int32) → Option Int32} (h : l_oM t i m V D) (e : D ≤ D2) : l_oM t i m V D2 := sgM_le h e
theorem cX_ok {B : Nat → Nat} {n a c : Nat} {s : ax_S} (h : l_cX B n a c s) (e : c ≤ 256) : l_ok s := ⟨c, e, h.2⟩
/-- the class notes a code -/
theorem X_ad {B : Nat → Nat} {n a c : Nat} {s : ax_S} (h : l_cX B n a c s) (hc : c < 256) (x y : Int32) : ∃ t, XLa_add_44 x y s = some t ∧ l_cX B n a (c + 1) t ∧ t.2.1 49 c = x ∧ t.2.1 50 c = y ∧ l_gX c s t := by
  obtain ⟨⟨h1, h2, h3, h4⟩, h5⟩ := h
  unfold XLa_add_44
  rw [h5, if_neg (by rw [q_256, z_le (by omega) (by omega)]; omega), if_neg (l_in (k := c) (N := 256) (by omega) (by omega)), if_neg (l_in (k := c) (N := 256) (by omega) (by omega)), z_cl (by omega), z_1]
  refine ⟨_, rfl, ⟨⟨?_, ?_, ?_, fun k hk => ?_⟩, ?_⟩, ?_, ?_, ⟨fun _ => ?_, fun c2 j a1 b1 d1 e1 => ?_⟩, fun q hq => ⟨?_, ?_⟩⟩
  · simp (disch := omega) only [r_I]; exact h1
  · simp (disch := omega) only [r_I]; exact h2
  · simp (disch := omega) only [r_I]; exact h3
  · simp (disch := omega) only [r_I]; exact h4 k hk
  · rw [r_Ie, r_u]
  · rw [r_I (by omega), r_I (by omega), r_Ie, r_u]
  · rw [r_I (by omega), r_Ie, r_u]
  · simp (disch := omega) only [r_I]
  · rw [r_one c2 j (by omega), r_two c2 j (by omega) (by omega)]
  · rw [r_one 49 q (by omega), r_one 49 q (by omega), r_one 49 q (by omega)]
  · rw [r_one 50 q (by omega), r_one 50 q (by omega), r_one 50 q (by omega)]
theorem X_sp {B : Nat → Nat} {n a c : Nat} {s : ax_S} (h : l_cX B n a c s) (c2 : Nat) : l_cX B n (a + 1) c (XTa_step s) ∧ l_gX c2 s (XTa_step s) :=
  ⟨⟨(X_st h.1).1, by rw [(X_st h.1).2.2 _ _ (by omega)]; exact h.2⟩, gX_of c2 (X_st h.1).2⟩
/-- the reference notes a code -/
theorem M_nt {B : Nat → Nat} {n a c w d : Nat} {s : ax_S} (h : l_cM B n a c w d s) (hc : c < 260) (k p : Nat) (w2 : Nat) : ∃ t, M_notes (nI k) (nI p) s = some t ∧ l_cM B n a (c + 1) w d t ∧ t.2.1 68 c = l_cd k p ∧ l_gM c w2 s t := by
  obtain ⟨⟨h1, h2, h3⟩, h4, h5, h6⟩ := h
  unfold M_notes
  rw [h4, if_neg (l_in (k := c) (N := 260) (by omega) (by omega)), z_cl (by omega), z_1, q_1048576, pk_mul, nI_add]
  refine ⟨_, rfl, ⟨⟨?_, ?_, fun k => ?_⟩, ?_, ?_, ?_⟩, ?_, fun c2 j a1 b1 d1 => ?_, fun q hq => ?_, fun q hq => ?_⟩
  · rw [r_two _ _ (by omega) (by omega)]; exact h1
  · rw [r_two _ _ (by omega) (by omega)]; exact h2
  · rw [r_two _ _ (by omega) (by omega)]; exact h3 k
  · rw [r_Ie, r_u]
  · rw [r_two _ _ (by omega) (by omega)]; exact h5
  · rw [r_two _ _ (by omega) (by omega)]; exact h6
  · rw [r_I (by omega), r_Ie, r_u]; rfl
  · rw [r_two c2 j (by omega) (by omega)]
  · rw [r_two _ _ (by omega) (by omega)]
  · rw [r_two _ _ (by omega) (by omega)]
theorem M_sp {B : Nat → Nat} {n a c w d : Nat} {s : ax_S} (h : l_cM B n a c w d s) (c2 w2 : Nat) : l_cM B n (a + 1) c w d (ax_sI s 63 6 (s.2.1 63 6 + 1)) ∧ l_gM c2 w2 s (ax_sI s 63 6 (s.2.1 63 6 + 1)) :=
  ⟨⟨(M_st h.1).1, by rw [r_one _ _ (by omega)]; exact h.2.1, by rw [r_one _ _ (by omega)]; exact h.2.2.1, by rw [r_one _ _ (by omega)]; exact h.2.2.2⟩, gM_of c2 w2 (M_st h.1).2⟩
/-- something waits -/
theorem M_pu {B : Nat → Nat} {n a c w d : Nat} {s : ax_S} (h : l_cM B n a c w d s) (hw : w < 260) (v : Int32) (c2 : Nat) :
    ∃ t, ax_sI (ax_sI s 69 (s.2.1 63 12).toNatClampNeg v) 63 12 (s.2.1 63 12 + 1) = t ∧ l_cM B n a c (w + 1) d t ∧ t.2.1 69 w = v ∧ l_gM c2 w s t := by
  obtain ⟨⟨h1, h2, h3⟩, h4, h5, h6⟩ := h
  rw [h5, z_cl (by omega), z_1]
  refine ⟨_, rfl, ⟨⟨?_, ?_, fun k => ?_⟩, ?_, ?_, ?_⟩, ?_, fun c2 j a1 b1 d1 => ?_, fun q hq => ?_, fun q hq => ?_⟩
  · rw [r_two _ _ (by omega) (by omega)]; exact h1
  · rw [r_two _ _ (by omega) (by omega)]; exact h2
  · rw [r_two _ _ (by omega) (by omega)]; exact h3 k
  · rw [r_two _ _ (by omega) (by omega)]; exact h4
  · rw [r_Ie, r_u]
  · rw [r_two _ _ (by omega) (by omega)]; exact h6
  · rw [r_I (by omega), r_Ie, r_u]
  · rw [r_two c2 j (by omega) (by omega)]
  · rw [r_two _ _ (by omega) (by omega)]
  · rw [r_two _ _ (by omega) (by omega)]
/-- what waited goes -/
theorem M_po {B : Nat → Nat} {n a c w d : Nat} {s : ax_S} (h : l_cM B n a c (w + 1) d s) (c2 w2 : Nat) :
    l_cM B n a c w d (ax_sI s 63 12 (s.2.1 63 12 - 1)) ∧ l_gM c2 w2 s (ax_sI s 63 12 (s.2.1 63 12 - 1)) := by
  obtain ⟨⟨h1, h2, h3⟩, h4, h5, h6⟩ := h
  rw [h5, show nI (w + 1) - 1 = nI w from z_sub (a := w + 1) (b := 1) (by omega)]
  refine ⟨⟨⟨?_, ?_, fun k => ?_⟩, ?_, ?_, ?_⟩, fun c2 j a1 b1 d1 => ?_, fun q hq => ?_, fun q hq => ?_⟩
  · rw [r_one _ _ (by omega)]; exact h1
  · rw [r_one _ _ (by omega)]; exact h2
  · rw [r_one _ _ (by omega)]; exact h3 k
  · rw [r_one _ _ (by omega)]; exact h4
  · rw [r_Ie, r_u]
  · rw [r_one _ _ (by omega)]; exact h6
  · rw [r_one c2 j (by omega)]
  · rw [r_one _ _ (by omega)]
  · rw [r_one _ _ (by omega)]
theorem M_de {B : Nat → Nat} {n a c w d : Nat} {s : ax_S} (h : l_cM B n a c w (d + 1) s) (c2 w2 : Nat) :
    l_cM B n a c w d (ax_sI s 63 10 (s.2.1 63 10 - 1)) ∧ l_gM c2 w2 s (ax_sI s 63 10 (s.2.1 63 10 - 1)) := by
  obtain ⟨⟨h1, h2, h3⟩, h4, h5, h6⟩ := h
  rw [h6, show nI (d + 1) - 1 = nI d from z_sub (a := d + 1) (b := 1) (by omega)]
  refine ⟨⟨⟨?_, ?_, fun k => ?_⟩, ?_, ?_, ?_⟩, fun c2 j a1 b1 d1 => ?_, fun q hq => ?_, fun q hq => ?_⟩
  · rw [r_one _ _ (by omega)]; exact h1
  · rw [r_one _ _ (by omega)]; exact h2
  · rw [r_one _ _ (by omega)]; exact h3 k
  · rw [r_one _ _ (by omega)]; exact h4
  · rw [r_one _ _ (by omega)]; exact h5
  · rw [r_Ie, r_u]
  · rw [r_one c2 j (by omega)]
  · rw [r_one _ _ (by omega)]
  · rw [r_one _ _ (by omega)]
theorem M_in1 {B : Nat → Nat} {n a c w d : Nat} {s : ax_S} (h : l_cM B n a c w d s) (c2 w2 : Nat) :
    l_cM B n a c w (d + 1) (ax_sI s 63 10 (s.2.1 63 10 + 1)) ∧ l_gM c2 w2 s (ax_sI s 63 10 (s.2.1 63 10 + 1)) := by
  obtain ⟨⟨h1, h2, h3⟩, h4, h5, h6⟩ := h
  rw [h6, z_1]
  refine ⟨⟨⟨?_, ?_, fun k => ?_⟩, ?_, ?_, ?_⟩, fun c2 j a1 b1 d1 => ?_, fun q hq => ?_, fun q hq => ?_⟩
  · rw [r_one _ _ (by omega)]; exact h1
  · rw [r_one _ _ (by omega)]; exact h2
  · rw [r_one _ _ (by omega)]; exact h3 k
  · rw [r_one _ _ (by omega)]; exact h4
  · rw [r_one _ _ (by omega)]; exact h5
  · rw [r_Ie, r_u]
  · rw [r_one c2 j (by omega)]
  · rw [r_one _ _ (by omega)]
  · rw [r_one _ _ (by omega)]
/-- ( [ ! -/
theorem M_op {B : Nat → Nat} {n a c w d : Nat} {s : ax_S} (h : l_cM B n a c w d s) (hw : w < 260) (hd : d < 6) (k : Nat) (c2 : Nat) :
    ∃ t, M_opens (nI k) s = some (1, t) ∧ l_cM B n (a + 1) c (w + 1) (d + 1) t ∧ t.2.1 69 w = l_cd k 0 ∧ l_gM c2 w s t := by
  have h6 := h.2.2.2
  have h5 := h.2.2.1
  obtain ⟨a1, a2⟩ := M_in1 h c2 w
  obtain ⟨t, b1, b2, b3, b4⟩ := M_pu a1 hw (l_cd k 0) c2
  obtain ⟨d1, d2⟩ := M_sp b2 c2 w
  refine ⟨_, ?_, d1, ?_, gM_tr a2 (gM_tr b4 d2 (Nat.le_refl _) (Nat.le_refl _)) (Nat.le_refl _) (Nat.le_refl _)⟩
  · unfold M_opens
    rw [h6, if_neg (by rw [q_6, z_eq (by omega) (by omega)]; omega), h5, if_neg (l_in (k := w) (N := 260) (by omega) (by omega)), ← b1, h6]
    have e5 : (ax_sI s 63 10 (nI d + 1)).2.1 63 12 = nI w := by rw [r_one _ _ (by omega)]; exact h5
    rw [e5, r_one 63 6 (by omega), r_one 63 6 (by omega), r_one 63 6 (by omega), q_1048576, pk_mul]
    rfl
  · rw [r_I (by omega)]; exact b3
theorem M_op6 {B : Nat → Nat} {n a c w : Nat} {s : ax_S} (h : l_cM B n a c w 6 s) (x : Int32) :
    ∃ t, M_opens x s = some (0, t) ∧ t.2.1 63 8 = t_fc 5 a ∧ l_N s t := by
  obtain ⟨w1, w2, w3⟩ := M_wr 5 a s
  refine ⟨(M_wrongAt (nI 5) (nI a) s).2, ?_, w2, lN_of w3⟩
  unfold M_opens
  rw [h.2.2.2, if_pos (show nI 6 = 6 from rfl), h.1.2.1]
  rfl
