/-! sets of persons by figures -/
def v_in (F : z_V) (i : Nat) (x y w h : Int32) : Int32 := if x + w ≤ F 1 i then 0 else if F 1 i + F 3 i ≤ x then 0 else if y + h ≤ F 2 i then 0 else if F 2 i + F 4 i ≤ y then 0 else 1
def v_wh (F : z_V) (i : Nat) (x y w h : Int32) : Int32 := if F 1 i < x then 0 else if x + w < F 1 i + F 3 i then 0 else if F 2 i < y then 0 else if y + h < F 2 i + F 4 i then 0 else 1
def g_W (F : z_V) (x y w h : Int32) (i : Nat) : Int32 := if F 0 i = -1 then 0 else if v_wh F i x y w h = 0 then 0 else v_bit F i
def g_P (F : z_V) (x y w h : Int32) (i : Nat) : Int32 := if F 0 i = -1 then 0 else if v_in F i x y w h = 0 then 0 else v_bit F i
def g_H (F : z_V) (x y w h : Int32) (i : Nat) : Int32 := if F 0 i = -1 then 0 else if v_in F i x y w h = 0 then 0 else if y ≤ F 2 i then 0 else v_bit F i
theorem c_in {F G : z_V} (h : v_R F G) {i : Nat} (hi : i < 12) (ht : ¬ G 0 i = -1) (x y w h2 : Int32) : v_in F i x y w h2 = v_in G i x y w h2 := by
  rcases (h i hi).2 with h1 | ⟨-, h1, h3, h4, h5⟩
  · exact absurd h1 ht
  · unfold v_in; rw [h1, h3, h4, h5]
theorem c_wh {F G : z_V} (h : v_R F G) {i : Nat} (hi : i < 12) (ht : ¬ G 0 i = -1) (x y w h2 : Int32) : v_wh F i x y w h2 = v_wh G i x y w h2 := by
  rcases (h i hi).2 with h1 | ⟨-, h1, h3, h4, h5⟩
  · exact absurd h1 ht
  · unfold v_wh; rw [h1, h3, h4, h5]
theorem c_2 {F G : z_V} (h : v_R F G) {i : Nat} (hi : i < 12) (ht : ¬ G 0 i = -1) : F 2 i = G 2 i := by
  rcases (h i hi).2 with h1 | ⟨-, h1, h3, h4, h5⟩
  · exact absurd h1 ht
  · exact h3
theorem c_W {F G : z_V} (h : v_R F G) (x y w h2 : Int32) : z_or (g_W F x y w h2) 12 = z_or (g_W G x y w h2) 12 := z_or_congr _ fun i hi => by
  unfold g_W
  rw [(h i hi).1]
  split
  · rfl
  · rename_i ht
    rw [c_wh h hi ht, i_bit h hi]
theorem c_P {F G : z_V} (h : v_R F G) (x y w h2 : Int32) : z_or (g_P F x y w h2) 12 = z_or (g_P G x y w h2) 12 := z_or_congr _ fun i hi => by
  unfold g_P
  rw [(h i hi).1]
  split
  · rfl
  · rename_i ht
    rw [c_in h hi ht, i_bit h hi]
theorem c_H {F G : z_V} (h : v_R F G) (x y w h2 : Int32) : z_or (g_H F x y w h2) 12 = z_or (g_H G x y w h2) 12 := z_or_congr _ fun i hi => by
  unfold g_H
  rw [(h i hi).1]
  split
  · rfl
  · rename_i ht
    rw [c_in h hi ht, i_bit h hi, c_2 h hi ht]
theorem X_pbit_eq (s : ax_S) (k : Nat) (h : k < 12) : XFi_personBit_4 (nI k) s = some (v_bit (vX s.2.1 5) k) := by
  unfold XFi_personBit_4
  rw [X_told_eq s k h]
  simp (disch := omega) only [z_cl, z_lt0, z_nle, if_false, or_self]
  unfold v_bit vX
  by_cases hc : s.2.1 5 k = -1
  · simp [hc]
  · simp [hc]
theorem X_meets_eq (s : ax_S) (k : Nat) (hk : k < 12) (x y w h : Int32) : XFi_meets_4 (nI k) x y w h s = some (if s.2.1 5 k = -1 then 0 else v_in (vX s.2.1 5) k x y w h) := by
  unfold XFi_meets_4
  rw [X_told_eq s k hk]
  simp (disch := omega) only [z_cl, z_lt0, z_nle, if_false, or_self]
  unfold v_in vX
  by_cases hc : s.2.1 5 k = -1
  · simp [hc]
  · simp only [hc, if_false, z_10]
    repeat' split
    all_goals first | rfl | contradiction
theorem M_right_eq (s : ax_S) (k : Nat) (hk : k < 12) : M_right (nI k) s = some (vM s.2.1 64 1 k + vM s.2.1 64 3 k) := by
  unfold M_right vM
  simp (disch := omega) only [q_12, q_36, nI_add, z_cl, z_lt0, z_nle, if_false, or_self]
theorem M_below_eq (s : ax_S) (k : Nat) (hk : k < 12) : M_below (nI k) s = some (vM s.2.1 64 2 k + vM s.2.1 64 4 k) := by
  unfold M_below vM
  simp (disch := omega) only [q_24, q_48, nI_add, z_cl, z_lt0, z_nle, if_false, or_self]
theorem M_isIn_eq (s : ax_S) (k : Nat) (hk : k < 12) (x y w h : Int32) : M_isIn (nI k) x y w h s = some (v_in (vM s.2.1 64) k x y w h) := by
  unfold M_isIn
  rw [M_right_eq s k hk, M_below_eq s k hk]
  simp (disch := omega) only [q_12, q_24, nI_add, z_cl, z_lt0, z_nle, if_false, or_self]
  unfold v_in
  rw [show s.2.1 64 (12 + k) = vM s.2.1 64 1 k from rfl, show s.2.1 64 (24 + k) = vM s.2.1 64 2 k from rfl]
  repeat' split
  all_goals first | rfl | contradiction
theorem M_isWh_eq (s : ax_S) (k : Nat) (hk : k < 12) (x y w h : Int32) : M_isWhollyIn (nI k) x y w h s = some (v_wh (vM s.2.1 64) k x y w h) := by
  unfold M_isWhollyIn
  rw [M_right_eq s k hk, M_below_eq s k hk]
  simp (disch := omega) only [q_12, q_24, nI_add, z_cl, z_lt0, z_nle, if_false, or_self]
  unfold v_wh
  rw [show s.2.1 64 (12 + k) = vM s.2.1 64 1 k from rfl, show s.2.1 64 (24 + k) = vM s.2.1 64 2 k from rfl]
  repeat' split
  all_goals first | rfl | contradiction
theorem or_0 (x : Int32) : x ||| 0 = x := Int32.or_zero
theorem X_whole_st (s : ax_S) (n k : Nat) (hk : k < 12) (x y w h a : Int32) : XFi_wholeIn_4_l6 (n + 1) x y w h a (nI k) s = XFi_wholeIn_4_l6 n x y w h (a ||| g_W (vX s.2.1 5) x y w h k) (nI (k + 1)) s := by
  rw [XFi_wholeIn_4_l6, X_pbit_eq s k hk]
  simp (disch := omega) only [q_12, z_1, z_cl, z_lt0, z_le, z_nle, if_false, or_self]
  unfold g_W v_wh v_bit vX
  by_cases hc : s.2.1 5 k = -1 <;> simp only [hc, if_true, if_false, or_0]
  all_goals repeat' split
  all_goals simp_all [or_0]
theorem X_whole_eq (s : ax_S) (x y w h : Int32) : XFi_wholeIn_4 x y w h s = some (z_or (g_W (vX s.2.1 5) x y w h) 12) := by
  unfold XFi_wholeIn_4
  obtain ⟨b, h1, h2⟩ := z_for (fun n k a => XFi_wholeIn_4_l6 n x y w h a (nI k) s) 12 (fun k a => a = z_or (g_W (vX s.2.1 5) x y w h) k) (fun b => b = z_or (g_W (vX s.2.1 5) x y w h) 12) (fun n a ha => ⟨a, by rw [XFi_wholeIn_4_l6]; exact if_pos (by decide), ha⟩) (fun n k a hk ha => Or.inr ⟨_, X_whole_st s n k hk x y w h a, by rw [ha]; rfl⟩) 70000 0 0 (by omega) rfl (by omega)
  have h1 : XFi_wholeIn_4_l6 70000 x y w h 0 0 s = some b := h1
  rw [h1, h2]
theorem M_whole_st (s : ax_S) (n k : Nat) (hk : k < 12) (x y w h a : Int32) : M_wholeIn_l6 (n + 1) x y w h a (nI k) s = M_wholeIn_l6 n x y w h (a ||| g_W (vM s.2.1 64) x y w h k) (nI (k + 1)) s := by
  rw [M_wholeIn_l6, M_fig_eq s k hk, M_isWh_eq s k hk]
  simp (disch := omega) only [q_12, z_0add, z_1, z_cl, z_lt0, z_le, z_nle, if_false, or_self]
  unfold g_W v_bit
  rw [show vM s.2.1 64 0 k = s.2.1 64 k by unfold vM; rw [Nat.mul_zero, Nat.zero_add]]
  by_cases hc : s.2.1 64 k = -1 <;> simp only [hc, if_true, if_false, or_0, z_10]
  split
  all_goals simp_all [or_0]
theorem M_whole_eq (s : ax_S) (x y w h : Int32) : M_wholeIn x y w h s = some (z_or (g_W (vM s.2.1 64) x y w h) 12) := by
  unfold M_wholeIn
  obtain ⟨b, h1, h2⟩ := z_for (fun n k a => M_wholeIn_l6 n x y w h a (nI k) s) 12 (fun k a => a = z_or (g_W (vM s.2.1 64) x y w h) k) (fun b => b = z_or (g_W (vM s.2.1 64) x y w h) 12) (fun n a ha => ⟨a, by rw [M_wholeIn_l6]; exact if_pos (by decide), ha⟩) (fun n k a hk ha => Or.inr ⟨_, M_whole_st s n k hk x y w h a, by rw [ha]; rfl⟩) 70000 0 0 (by omega) rfl (by omega)
  have h1 : M_wholeIn_l6 70000 x y w h 0 0 s = some b := h1
  rw [h1, h2]
