/-! law: sums -/
/-- the head of a sum's loop: p waits in the class -/
def l_HD (p cX cM w D : Nat) (sX sM : ax_S) (cx cm w1 ub : Nat) : Prop :=
  (p = 0 ∧ ∃ mT T, cx = cX + mT ∧ mT ≤ ub ∧ l_oX sX cX mT T (D + 1) ∧ l_mT sM cM w cm w1 mT T D) ∨
  (∃ mA mT A T kp, ((p = 43 ∧ kp = 2) ∨ (p = 45 ∧ kp = 3)) ∧ cx = cX + mA + mT ∧ mA + mT + 1 ≤ ub ∧ l_oX sX cX mA A (D + 2) ∧ l_oX sX (cX + mA) mT T (D + 1) ∧ l_oM sM cM mA A (D + 2) ∧ sM.2.1 69 w = l_cd kp 0 ∧ l_mT sM (cM + mA) (w + 1) cm w1 mT T D)
def l_sad (p : Int32) (s : ax_S) : Option ax_S := if p = 0 then some s else match XLa_add_44 p 0 s with
  | none => none
  | some s4 => some s4
theorem mT_w {t : ax_S} {j w0 c w mT D : Nat} {T : (Nat → Int32) → Option Int32} (g : l_mT t j w0 c w mT T D) : w0 ≤ w ∧ w ≤ w0 + 1 ∧ ∀ q, w0 ≤ q → q < w → ∃ i, i ≤ 13 ∧ t.2.1 69 q = l_cd i 0 := by
  rcases g with ⟨-, rfl, -⟩ | ⟨m1, m2, T1, T2, kd, op, -, -, rfl, -, -, g3, g4, g5, -⟩
  · exact ⟨by omega, by omega, fun q h1 h2 => by omega⟩
  · exact ⟨by omega, by omega, fun q h1 h2 => ⟨kd, by omega, by rw [show q = w0 by omega]; exact g3⟩⟩
theorem hd_w {p cX cM w D cx cm w1 ub : Nat} {sX sM : ax_S} (h : l_HD p cX cM w D sX sM cx cm w1 ub) : w ≤ w1 ∧ w1 ≤ w + 2 ∧ ∀ q, w ≤ q → q < w1 → ∃ i, i ≤ 13 ∧ sM.2.1 69 q = l_cd i 0 := by
  rcases h with ⟨-, mT, T, -, -, -, h5⟩ | ⟨mA, mT, A, T, kp, h1, -, -, -, -, -, h7, h8⟩
  · obtain ⟨a, b, c⟩ := mT_w h5
    exact ⟨a, by omega, c⟩
  · obtain ⟨a, b, c⟩ := mT_w h8
    refine ⟨by omega, by omega, fun q e1 e2 => ?_⟩
    by_cases e : q = w
    · subst e; exact ⟨kp, by omega, h7⟩
    · exact c q (by omega) e2
theorem cl_all (x : Int32) (s t : ax_S) (f : Nat) (h : M_closesSums_l0 70000 x s = M_closesSums_l0 (f + 1) x t) (h2 : M_closesSums_l0 (f + 1) x t = some t) : M_closesSums x s = some t := by
  unfold M_closesSums
  rw [h, h2]
/-- all is joined -/
theorem hd_cl {B : Nat → Nat} {n aX aM p cX cM w d D cx cm w1 ub : Nat} {sX sM : ax_S} (hX : l_cX B n aX cx sX) (hM : l_cM B n aM cm w1 d sM) (h : l_HD p cX cM w D sX sM cx cm w1 ub) (hl : l_lo sM w) (hD : 1 ≤ D) (b1 : cX + ub ≤ 250) (b2 : cM + ub ≤ 250) (b3 : w ≤ 250) :
    ∃ m V uX uM, m ≤ ub ∧ l_sad (nI p) sX = some uX ∧ l_cX B n aX (cX + m) uX ∧ l_oX uX cX m V (D + 2) ∧ l_gX cX sX uX ∧ M_closesSums 1 sM = some uM ∧ l_cM B n aM (cM + m) w d uM ∧ l_oM uM cM m V (D + 2) ∧ l_gM cM w sM uM := by
  obtain ⟨ww1, ww2, -⟩ := hd_w h
  rcases h with ⟨rfl, mT, T, rfl, h2, h3, h4⟩ | ⟨mA, mT, A, T, kp, h1, rfl, h2, h3, h4, h5, h6, h7⟩
  · obtain ⟨u, e1, e2, e3, e4⟩ := mT_cl hM h4 hD (by omega) (by omega) 1 w
    obtain ⟨f2, f3, f4⟩ := e1 69999
    rw [show 69999 + 1 = 70000 from rfl] at f4
    obtain ⟨f5, rfl⟩ : ∃ x, f2 = x + 1 := ⟨f2 - 1, by omega⟩
    exact ⟨mT, T, sX, u, h2, by unfold l_sad; rw [if_pos (show nI 0 = 0 from rfl)], hX, oX_le h3 (by omega), gX_refl _ _, cl_all 1 sM u f5 f4 (cl_lo e2 (by omega) (lo_g hl e4 (Nat.le_refl _)) 1 f5), e2, oM_le e3 (by omega), e4⟩
  · obtain ⟨u, e1, e2, e3, e4⟩ := mT_cl hM h7 hD (by omega) (by omega) 1 (w + 1)
    have t69 : u.2.1 69 w = l_cd kp 0 := by rw [e4.2.2 w (by omega)]; exact h6
    obtain ⟨v, g1, g2, g3, g4⟩ := cl_po e2 (by omega) (by omega) 1 (Or.inr ⟨by decide, by omega⟩) t69 w
    obtain ⟨f2, f3, f4⟩ := e1 69999
    rw [show 69999 + 1 = 70000 from rfl] at f4
    obtain ⟨f5, rfl⟩ : ∃ x, f2 = x + 2 := ⟨f2 - 2, by omega⟩
    have p0 : ¬ nI p = 0 := by rw [z_eq0 (by omega)]; omega
    obtain ⟨uX, i1, i2, i3, i4, i5⟩ := X_ad hX (by omega) (nI p) 0
    have hk : l_kd kp p := by unfold l_kd; omega
    have hop : l_isop p := by unfold l_isop; omega
    have gg : l_gM cM w sM v := gM_tr (gM_le e4 (by omega) (by omega)) g4 (by omega) (Nat.le_refl _)
    refine ⟨mA + mT + 1, fun E => l_join p (A E) (T E), uX, v, h2, by unfold l_sad; rw [if_neg p0, i1], ?_, ?_, gX_le i5 (by omega), ?_, ?_, ?_, gg⟩
    · rw [show cX + (mA + mT + 1) = cX + mA + mT + 1 by omega]; exact i2
    · exact seg_le (l_seg_op (oX_cg h3 i5 (by omega)) (oX_cg h4 i5 (by omega)) i3 hop) (by omega)
    · exact cl_all 1 sM v f5 (by rw [f4, g1]) (cl_lo g2 (by omega) (lo_g hl gg (Nat.le_refl _)) 1 f5)
    · rw [show cM + (mA + mT + 1) = cM + mA + mT + 1 by omega]; exact g2
    · exact sgM_le (l_sgM_op (oM_cg (oM_cg h5 e4 (by omega)) g4 (by omega)) (oM_cg e3 g4 (by omega)) g3 hk) (by omega)
/-- * / % : the term ahead is closed -/
theorem hd_c0 {B : Nat → Nat} {n aM p cX cM w d D cx cm w1 ub : Nat} {sX sM : ax_S} (hM : l_cM B n aM cm w1 d sM) (h : l_HD p cX cM w D sX sM cx cm w1 ub) (hl : l_lo sM w) (hD : 1 ≤ D) (b2 : cM + ub ≤ 250) (b3 : w ≤ 250) :
    ∃ uM j w0 mT T, M_closesSums 0 sM = some uM ∧ l_cM B n aM (j + mT) w0 d uM ∧ l_gM cM w sM uM ∧ cM ≤ j ∧ j + mT ≤ cM + ub ∧ w ≤ w0 ∧ w0 ≤ w + 1 ∧ l_oM uM j mT T (D + 1) ∧
      ((p = 0 ∧ j = cM ∧ w0 = w ∧ cx = cX + mT ∧ mT ≤ ub ∧ l_oX sX cX mT T (D + 1)) ∨
       (∃ mA A kp, ((p = 43 ∧ kp = 2) ∨ (p = 45 ∧ kp = 3)) ∧ j = cM + mA ∧ w0 = w + 1 ∧ cx = cX + mA + mT ∧ mA + mT + 1 ≤ ub ∧ l_oX sX cX mA A (D + 2) ∧ l_oX sX (cX + mA) mT T (D + 1) ∧ l_oM uM cM mA A (D + 2) ∧ uM.2.1 69 w = l_cd kp 0)) := by
  obtain ⟨ww1, ww2, -⟩ := hd_w h
  rcases h with ⟨rfl, mT, T, rfl, h2, h3, h4⟩ | ⟨mA, mT, A, T, kp, h1, rfl, h2, h3, h4, h5, h6, h7⟩
  · obtain ⟨u, e1, e2, e3, e4⟩ := mT_cl hM h4 hD (by omega) (by omega) 0 w
    obtain ⟨f2, f3, f4⟩ := e1 69999
    rw [show 69999 + 1 = 70000 from rfl] at f4
    obtain ⟨f5, rfl⟩ : ∃ x, f2 = x + 1 := ⟨f2 - 1, by omega⟩
    exact ⟨u, cM, w, mT, T, cl_all 0 sM u f5 f4 (cl_lo e2 (by omega) (lo_g hl e4 (Nat.le_refl _)) 0 f5), e2, e4, by omega, by omega, by omega, by omega, e3, Or.inl ⟨rfl, rfl, rfl, rfl, h2, h3⟩⟩
  · obtain ⟨u, e1, e2, e3, e4⟩ := mT_cl hM h7 hD (by omega) (by omega) 0 (w + 1)
    have t69 : u.2.1 69 w = l_cd kp 0 := by rw [e4.2.2 w (by omega)]; exact h6
    obtain ⟨f2, f3, f4⟩ := e1 69999
    rw [show 69999 + 1 = 70000 from rfl] at f4
    obtain ⟨f5, rfl⟩ : ∃ x, f2 = x + 1 := ⟨f2 - 1, by omega⟩
    exact ⟨u, cM + mA, w + 1, mT, T, cl_all 0 sM u f5 f4 (cl_st e2 (by omega) (by omega) t69 f5), e2, gM_le e4 (by omega) (by omega), by omega, by omega, by omega, by omega, e3, Or.inr ⟨mA, A, kp, h1, rfl, rfl, rfl, h2, h3, h4, oM_cg h5 e4 (by omega), t69⟩⟩
/-- the class's loop always answers -/
theorem la_sumL (rec : Nat → Int32 → Int32 → ax_S → Option ax_S) (x1 : Int32) (h : ∀ s, l_ok s → l_an (rec 4 x1 0 s) s) (n : Nat) (p x3 : Int32) (k : Nat) (s1 : ax_S) (hk : k ≤ 240) (hn : 240 - k < n) (o : l_ok s1) : ∃ q t, XLaRe_readSum_l18 rec n x1 p x3 (nI k) s1 = some (q, t) ∧ l_K s1 t ∧ l_ok t := by
  obtain ⟨⟨w, t⟩, c1, c2, c3⟩ := z_for (fun n k (a : Int32 × Int32 × ax_S) => XLaRe_readSum_l18 rec n x1 a.1 a.2.1 (nI k) a.2.2) 240 (fun k a => l_K s1 a.2.2 ∧ l_ok a.2.2) (fun b => l_K s1 b.2 ∧ l_ok b.2) (fun n a ha => ⟨(a.1, a.2.2), by
      show XLaRe_readSum_l18 rec (n + 1) x1 a.1 a.2.1 (nI 240) a.2.2 = _
      rw [XLaRe_readSum_l18]
      exact if_pos (by decide), ha⟩) (fun n k a hk ha => by
      obtain ⟨p, x3, u⟩ := a
      show (∃ b, XLaRe_readSum_l18 rec (n + 1) x1 p x3 (nI k) u = some b ∧ _) ∨ ∃ a' : Int32 × Int32 × ax_S, XLaRe_readSum_l18 rec (n + 1) x1 p x3 (nI k) u = XLaRe_readSum_l18 rec n x1 a'.1 a'.2.1 (nI (k + 1)) a'.2.2 ∧ _
      have ha1 : l_K s1 u := ha.1
      have ha2 : l_ok u := ha.2
      rw [XLaRe_readSum_l18, if_neg (by rw [q_240, z_le (by omega) (by omega)]; omega)]
      by_cases c : XLaRe_joinsNumbers x3 u = 0
      · exact Or.inl ⟨(p, u), by rw [if_pos c], ha1, ha2⟩
      · rw [if_neg c]
        generalize hy : XLaRe_readSum_j43 x1 p x3 (nI k) x3 (XTa_step u) = y
        obtain ⟨u5, e1, e2, e3⟩ : l_an (XLaRe_readSum_j61 x1 p x3 (nI k) y y (XTa_step u)) (XTa_step u) := by
          have o1 := lok_K (l_step u) ha2
          unfold XLaRe_readSum_j61
          by_cases d1 : y = 0
          · exact ⟨_, by rw [if_pos d1], lK_refl _, o1⟩
          · rw [if_neg d1]
            by_cases d2 : p = 0
            · exact ⟨_, by rw [if_pos d2], lK_refl _, o1⟩
            · rw [if_neg d2]
              obtain ⟨t, f1, f2, f3⟩ := l_add p 0 _ o1
              rw [f1]
              exact ⟨t, rfl, f2, f3⟩
        rw [e1]
        obtain ⟨u6, g1, g2, g3⟩ := h u5 e3
        simp only [g1]
        obtain ⟨q, u9, i1, i2, i3⟩ : ∃ q u9, XLaRe_readSum_j84 x1 p x3 (nI k) y u6 = some (q, u9) ∧ l_K u6 u9 ∧ l_ok u9 := by
          unfold XLaRe_readSum_j84
          by_cases d1 : y = 0
          · rw [if_pos d1]
            obtain ⟨t, f1, f2, f3⟩ := l_add x3 0 u6 g3
            rw [f1]
            exact ⟨p, t, rfl, f2, f3⟩
          · exact ⟨x3, u6, by rw [if_neg d1], lK_refl _, g3⟩
        obtain ⟨v10, j1⟩ := a_peek u9
        simp only [i1, j1, z_1]
        exact Or.inr ⟨(q, v10, u9), rfl, lK_tr ha1 (lK_tr (lK_of (l_step u)) (lK_tr e2 (lK_tr g2 i2))), i3⟩) n k (p, x3, s1) hk ⟨lK_refl _, o⟩ hn
  exact ⟨w, t, c1, c2, c3⟩
/-- the class behind the loop -/
def l_sen (o : Option (Int32 × ax_S)) : Option ax_S := match o with
  | none => none
  | some (v11, s12) => l_sad v11 s12
theorem la_sen (q : Int32) (t : ax_S) (o : l_ok t) : l_an (l_sen (some (q, t))) t := by
  show l_an (l_sad q t) t
  unfold l_sad
  by_cases c : q = 0
  · rw [if_pos c]; exact ⟨t, rfl, lK_refl _, o⟩
  · rw [if_neg c]
    obtain ⟨u, f1, f2, f3⟩ := l_add q 0 t o
    rw [f1]
    exact ⟨u, rfl, f2, f3⟩
theorem l_sumE (rec : Nat → Int32 → Int32 → ax_S → Option ax_S) (x1 : Int32) (s : ax_S) : XLaRe_readSum rec x1 s = (match rec 4 x1 0 s with
    | none => none
    | some s1 => match XTa_peek s1 with
      | none => none
      | some v2 => l_sen (XLaRe_readSum_l18 rec 70000 x1 0 v2 0 s1)) := by
  unfold XLaRe_readSum l_sen l_sad
  cases rec 4 x1 0 s with
  | none => rfl
  | some s1 =>
    simp only []
    cases XTa_peek s1 with
    | none => rfl
    | some v2 =>
      simp only []
      generalize XLaRe_readSum_l18 rec 70000 x1 0 v2 0 s1 = o
      rcases o with _ | ⟨v, t⟩
      · rfl
      · rfl
