/-! law: conditions -/
/-- an and-part behind j: closed, or its last & waits -/
def l_cT (t : ax_S) (j w0 w mT : Nat) (T : (Nat → Int32) → Option Int32) (D : Nat) : Prop :=
  (w = w0 ∧ l_oM t j mT T (D + 1)) ∨
  (∃ m1 m2 T1 T2, mT = m1 + m2 + 1 ∧ w = w0 + 1 ∧ l_oM t j m1 T1 (D + 1) ∧ t.2.1 68 (j + m1) = l_cd 11 0 ∧ t.2.1 69 w0 = l_cd 11 (j + m1) ∧ l_oM t (j + m1 + 1) m2 T2 D ∧ l_bo T1 ∧ T = fun E => l_join 38 (T1 E) (T2 E))
/-- the head of a condition's loop: p: an | waits in the class -/
def l_HC (p cX cM w D : Nat) (sX sM : ax_S) (cx cm w1 ub : Nat) : Prop :=
  (p = 0 ∧ ∃ mT T, cx = cX + mT ∧ cm = cM + mT ∧ mT ≤ ub ∧ l_oX sX cX mT T (D + 1) ∧ l_cT sM cM w w1 mT T D ∧ l_bo T) ∨
  (p = 1 ∧ ∃ mA mT A T, cx = cX + mA + mT ∧ cm = cM + mA + 1 + mT ∧ mA + mT + 1 ≤ ub ∧ l_oX sX cX mA A (D + 2) ∧ l_oX sX (cX + mA) mT T (D + 1) ∧ l_oM sM cM mA A (D + 2) ∧ sM.2.1 68 (cM + mA) = l_cd 12 0 ∧ sM.2.1 69 w = l_cd 12 (cM + mA) ∧ l_cT sM (cM + mA + 1) (w + 1) w1 mT T D ∧ l_bo A ∧ l_bo T)
def l_sac (p : Int32) (s : ax_S) : Option ax_S := if p = 0 then some s else match XLa_add_44 124 0 s with
  | none => none
  | some s4 => some s4
theorem cT_w {t : ax_S} {j w0 w mT D : Nat} {T : (Nat → Int32) → Option Int32} (g : l_cT t j w0 w mT T D) : w0 ≤ w ∧ w ≤ w0 + 1 := by
  rcases g with ⟨rfl, -⟩ | ⟨m1, m2, T1, T2, -, rfl, -⟩ <;> omega
theorem hc_w {p cX cM w D cx cm w1 ub : Nat} {sX sM : ax_S} (h : l_HC p cX cM w D sX sM cx cm w1 ub) : w ≤ w1 ∧ w1 ≤ w + 2 ∧ cx ≤ cX + ub ∧ cm ≤ cM + ub ∧ cX ≤ cx := by
  rcases h with ⟨-, mT, T, e1, e2, e3, -, h5, -⟩ | ⟨-, mA, mT, A, T, e1, e2, e3, -, -, -, -, -, h8, -⟩
  · have := cT_w h5; omega
  · have := cT_w h8; omega
theorem hc_gX {p cX cM w D cx cm w1 ub c : Nat} {sX tX sM : ax_S} (h : l_HC p cX cM w D sX sM cx cm w1 ub) (g : l_gX c sX tX) (e : cx ≤ c) : l_HC p cX cM w D tX sM cx cm w1 ub := by
  rcases h with ⟨rfl, mT, T, rfl, h1, h2, h3, h4⟩ | ⟨rfl, mA, mT, A, T, rfl, h1, h2, h3, h4, h5⟩
  · exact Or.inl ⟨rfl, mT, T, rfl, h1, h2, oX_cg h3 g e, h4⟩
  · exact Or.inr ⟨rfl, mA, mT, A, T, rfl, h1, h2, oX_cg h3 g (by omega), oX_cg h4 g e, h5⟩
/-- the top of what waits at the loop's head -/
theorem hc_top {p cX cM w D cx cm w1 ub : Nat} {sX sM : ax_S} (h : l_HC p cX cM w D sX sM cx cm w1 ub) (hw : 1 ≤ w) (h13 : sM.2.1 69 (w - 1) = l_cd 13 0) (hb : cM + ub ≤ 250) : ∃ k q, 11 ≤ k ∧ k ≤ 13 ∧ q < 1048576 ∧ sM.2.1 69 (w1 - 1) = l_cd k q := by
  rcases h with ⟨-, mT, T, e1, e2, e3, -, h5, -⟩ | ⟨-, mA, mT, A, T, e1, e2, e3, -, -, -, -, h6, h8, -⟩
  · rcases h5 with ⟨rfl, -⟩ | ⟨m1, m2, T1, T2, rfl, rfl, -, -, h, -⟩
    · exact ⟨13, 0, by omega, by omega, by omega, h13⟩
    · exact ⟨11, cM + m1, by omega, by omega, by omega, by rw [show w + 1 - 1 = w by omega]; exact h⟩
  · rcases h8 with ⟨rfl, -⟩ | ⟨m1, m2, T1, T2, rfl, rfl, -, -, h, -⟩
    · exact ⟨12, cM + mA, by omega, by omega, by omega, by rw [show w + 1 - 1 = w by omega]; exact h6⟩
    · exact ⟨11, cM + mA + 1 + m1, by omega, by omega, by omega, by rw [show w + 1 + 1 - 1 = w + 1 by omega]; exact h⟩
theorem ld_all (x : Int32) (s t : ax_S) (f : Nat) (h : M_lands_l0 70000 x s = M_lands_l0 (f + 1) x t) (h2 : M_lands_l0 (f + 1) x t = some t) : M_lands x s = some t := by
  unfold M_lands
  rw [h, h2]
theorem cT_ld {B : Nat → Nat} {n a j w0 w d mT D : Nat} {T : (Nat → Int32) → Option Int32} {t : ax_S} (h : l_cM B n a (j + mT) w d t) (g : l_cT t j w0 w mT T D) (hw : w ≤ 260) (hc : j + mT < 260) (x : Int32) (w2 : Nat) :
    ∃ u, (∀ f, ∃ f2, f ≤ f2 ∧ M_lands_l0 (f + 1) x t = M_lands_l0 f2 x u) ∧ l_cM B n a (j + mT) w0 d u ∧ l_oM u j mT T (D + 1) ∧ l_gM j w2 t u := by
  rcases g with ⟨rfl, g1⟩ | ⟨m1, m2, T1, T2, rfl, rfl, g1, g2, g3, g4, g5, rfl⟩
  · exact ⟨t, fun f => ⟨f + 1, by omega, rfl⟩, h, g1, gM_refl _ _ _⟩
  · obtain ⟨u, a1, a2, a3, a4, a5⟩ := ld_po h (by omega) (show j + m1 < 260 by omega) (by omega) x (Or.inl rfl) g3 g2 w2
    refine ⟨u, fun f => ⟨f, Nat.le_refl _, a1 f⟩, a2, ?_, gM_le a5 (by omega) (Nat.le_refl _)⟩
    have o1 : l_sgM (u.2.1 68) j m1 T1 (D + 1) := sgM_cg g1 fun q _ hq => a4 q (by omega)
    have o2 : l_sgM (u.2.1 68) (j + m1 + 1) m2 T2 D := sgM_cg g4 fun q hq _ => a4 q (by omega)
    have o3 := l_sgM_jmp o1 o2 (k := 11) (c := 38) (by rw [a3, show j + m1 + 1 + m2 = j + (m1 + m2 + 1) by omega]) (Or.inl ⟨rfl, rfl⟩) g5
    rw [show m1 + 1 + m2 = m1 + m2 + 1 by omega] at o3
    exact sgM_le o3 (by omega)
/-- all is joined -/
theorem hc_cl {B : Nat → Nat} {n aX aM p cX cM w d D cx cm w1 ub : Nat} {sX sM : ax_S} (hX : l_cX B n aX cx sX) (hM : l_cM B n aM cm w1 d sM) (h : l_HC p cX cM w D sX sM cx cm w1 ub) (hw : 1 ≤ w) (h13 : sM.2.1 69 (w - 1) = l_cd 13 0) (b1 : cX + ub ≤ 250) (b2 : cM + ub ≤ 250) (b3 : w ≤ 250) :
    ∃ m V uX uM, m ≤ ub ∧ l_sac (nI p) sX = some uX ∧ l_cX B n aX (cX + m) uX ∧ l_oX uX cX m V (D + 2) ∧ l_gX cX sX uX ∧ M_lands 1 sM = some uM ∧ l_cM B n aM (cM + m) w d uM ∧ l_oM uM cM m V (D + 2) ∧ l_gM cM w sM uM ∧ l_bo V := by
  obtain ⟨ww1, ww2, -⟩ := hc_w h
  rcases h with ⟨rfl, mT, T, rfl, rfl, h2, h3, h4, h5⟩ | ⟨rfl, mA, mT, A, T, rfl, rfl, h2, h3, h4, h5, h6, h7, h8, h9, h10⟩
  · obtain ⟨u, e1, e2, e3, e4⟩ := cT_ld hM h4 (by omega) (by omega) 1 w
    obtain ⟨f2, f3, f4⟩ := e1 69999
    rw [show 69999 + 1 = 70000 from rfl] at f4
    obtain ⟨f5, rfl⟩ : ∃ x, f2 = x + 1 := ⟨f2 - 1, by omega⟩
    exact ⟨mT, T, sX, u, h2, by unfold l_sac; rw [if_pos (show nI 0 = 0 from rfl)], hX, oX_le h3 (by omega), gX_refl _ _, ld_all 1 sM u f5 f4 (ld_no e2 (by omega) (Or.inr ⟨13, 0, by omega, by omega, by omega, by omega, by rw [e4.2.2 _ (by omega)]; exact h13⟩) 1 f5), e2, oM_le e3 (by omega), e4, h5⟩
  · obtain ⟨u, e1, e2, e3, e4⟩ := cT_ld hM h8 (by omega) (by omega) 1 (w + 1)
    have t69 : u.2.1 69 w = l_cd 12 (cM + mA) := by rw [e4.2.2 w (by omega)]; exact h7
    have t68 : u.2.1 68 (cM + mA) = l_cd 12 0 := by rw [e4.2.1 _ (by omega)]; exact h6
    obtain ⟨v, g1, g2, g3, g4, g5⟩ := ld_po e2 (by omega) (show cM + mA < 260 by omega) (by omega) 1 (Or.inr ⟨rfl, by decide⟩) t69 t68 w
    obtain ⟨f2, f3, f4⟩ := e1 69999
    rw [show 69999 + 1 = 70000 from rfl] at f4
    obtain ⟨f5, rfl⟩ : ∃ x, f2 = x + 2 := ⟨f2 - 2, by omega⟩
    obtain ⟨uX, i1, i2, i3, i4, i5⟩ := X_ad hX (by omega) 124 0
    have hop : l_isop 124 := by unfold l_isop; omega
    have gg : l_gM cM w sM v := gM_tr (gM_le e4 (by omega) (by omega)) g5 (by omega) (Nat.le_refl _)
    have o1 : l_sgM (v.2.1 68) cM mA A (D + 2) := sgM_cg (oM_cg h5 e4 (by omega)) fun q _ hq => g4 q (by omega)
    have o2 : l_sgM (v.2.1 68) (cM + mA + 1) mT T (D + 1) := sgM_cg e3 fun q hq _ => g4 q (by omega)
    have o3 := l_sgM_jmp o1 o2 (k := 12) (c := 124) g3 (Or.inr ⟨rfl, rfl⟩) h9
    rw [show mA + 1 + mT = mA + mT + 1 by omega] at o3
    refine ⟨mA + mT + 1, fun E => l_join 124 (A E) (T E), uX, v, h2, by unfold l_sac; rw [if_neg (show ¬ nI 1 = 0 by decide), i1], ?_, ?_, gX_le i5 (by omega), ?_, ?_, sgM_le o3 (by omega), gg, bo_jn (Or.inr rfl) h9 h10⟩
    · rw [show cX + (mA + mT + 1) = cX + mA + mT + 1 by omega]; exact i2
    · exact seg_le (l_seg_op (oX_cg h3 i5 (by omega)) (oX_cg h4 i5 (by omega)) i3 hop) (by omega)
    · exact ld_all 1 sM v f5 (by rw [f4, g1]) (ld_no g2 (by omega) (Or.inr ⟨13, 0, by omega, by omega, by omega, by omega, by rw [gg.2.2 _ (by omega)]; exact h13⟩) 1 f5)
    · rw [show cM + (mA + mT + 1) = cM + mA + 1 + mT by omega]; exact g2
/-- & : the and-part ahead is closed -/
theorem hc_c0 {B : Nat → Nat} {n aM p cX cM w d D cx cm w1 ub : Nat} {sX sM : ax_S} (hM : l_cM B n aM cm w1 d sM) (h : l_HC p cX cM w D sX sM cx cm w1 ub) (hw : 1 ≤ w) (h13 : sM.2.1 69 (w - 1) = l_cd 13 0) (b2 : cM + ub ≤ 250) (b3 : w ≤ 250) :
    ∃ uM j w0 mT T, M_lands 0 sM = some uM ∧ l_cM B n aM (j + mT) w0 d uM ∧ l_gM cM w sM uM ∧ cM ≤ j ∧ j + mT ≤ cM + ub ∧ w ≤ w0 ∧ w0 ≤ w + 1 ∧ l_oM uM j mT T (D + 1) ∧ l_bo T ∧
      ((p = 0 ∧ j = cM ∧ w0 = w ∧ cx = cX + mT ∧ mT ≤ ub ∧ l_oX sX cX mT T (D + 1)) ∨
       (∃ mA A, p = 1 ∧ j = cM + mA + 1 ∧ w0 = w + 1 ∧ cx = cX + mA + mT ∧ mA + mT + 1 ≤ ub ∧ l_oX sX cX mA A (D + 2) ∧ l_oX sX (cX + mA) mT T (D + 1) ∧ l_oM uM cM mA A (D + 2) ∧ uM.2.1 68 (cM + mA) = l_cd 12 0 ∧ uM.2.1 69 w = l_cd 12 (cM + mA) ∧ l_bo A)) := by
  obtain ⟨ww1, ww2, -⟩ := hc_w h
  rcases h with ⟨rfl, mT, T, rfl, rfl, h2, h3, h4, h5⟩ | ⟨rfl, mA, mT, A, T, rfl, rfl, h2, h3, h4, h5, h6, h7, h8, h9, h10⟩
  · obtain ⟨u, e1, e2, e3, e4⟩ := cT_ld hM h4 (by omega) (by omega) 0 w
    obtain ⟨f2, f3, f4⟩ := e1 69999
    rw [show 69999 + 1 = 70000 from rfl] at f4
    obtain ⟨f5, rfl⟩ : ∃ x, f2 = x + 1 := ⟨f2 - 1, by omega⟩
    exact ⟨u, cM, w, mT, T, ld_all 0 sM u f5 f4 (ld_no e2 (by omega) (Or.inr ⟨13, 0, by omega, by omega, by omega, by omega, by rw [e4.2.2 _ (by omega)]; exact h13⟩) 0 f5), e2, e4, by omega, by omega, by omega, by omega, e3, h5, Or.inl ⟨rfl, rfl, rfl, rfl, h2, h3⟩⟩
  · obtain ⟨u, e1, e2, e3, e4⟩ := cT_ld hM h8 (by omega) (by omega) 0 (w + 1)
    have t69 : u.2.1 69 w = l_cd 12 (cM + mA) := by rw [e4.2.2 w (by omega)]; exact h7
    have t68 : u.2.1 68 (cM + mA) = l_cd 12 0 := by rw [e4.2.1 _ (by omega)]; exact h6
    obtain ⟨f2, f3, f4⟩ := e1 69999
    rw [show 69999 + 1 = 70000 from rfl] at f4
    obtain ⟨f5, rfl⟩ : ∃ x, f2 = x + 1 := ⟨f2 - 1, by omega⟩
    exact ⟨u, cM + mA + 1, w + 1, mT, T, ld_all 0 sM u f5 f4 (ld_st e2 (by omega) (by omega) t69 f5), e2, gM_le e4 (by omega) (by omega), by omega, by omega, by omega, by omega, e3, h10, Or.inr ⟨mA, A, rfl, rfl, rfl, rfl, h2, h3, h4, oM_cg h5 e4 (by omega), t68, t69, h9⟩⟩
