/-! tools of the mathematics: small numbers, loops, reads of the store -/
theorem z_le {a b : Nat} (ha : a < 2147483648) (hb : b < 2147483648) : (nI a ≤ nI b) = (a ≤ b) := propext (nI_leI (by omega) (by omega))
theorem z_lt {a b : Nat} (ha : a < 2147483648) (hb : b < 2147483648) : (nI a < nI b) = (a < b) := propext (nI_ltI (by omega) (by omega))
theorem z_eq {a b : Nat} (ha : a < 2147483648) (hb : b < 2147483648) : (nI a = nI b) = (a = b) := propext (nI_eq (by omega) (by omega))
theorem z_lt0 {a : Nat} (ha : a < 2147483648) : (nI a < 0) = False := eq_false (nI_pos (by omega))
theorem z_le0 {a : Nat} (ha : a < 2147483648) : (nI a ≤ 0) = (a = 0) := by
  rw [show (0 : Int32) = nI 0 from rfl, z_le ha (by omega)]
  exact propext ⟨fun h => Nat.le_zero.mp h, fun h => Nat.le_zero.mpr h⟩
theorem z_eq0 {a : Nat} (ha : a < 2147483648) : (nI a = 0) = (a = 0) := by
  rw [show (0 : Int32) = nI 0 from rfl, z_eq ha (by omega)]
theorem z_0lt {a : Nat} (ha : a < 2147483648) : (0 < nI a) = (0 < a) := by
  rw [show (0 : Int32) = nI 0 from rfl, z_lt (by omega) ha]
theorem z_cl {a : Nat} (ha : a < 2147483648) : (nI a).toNatClampNeg = a := nI_clamp (by omega)
theorem z_1 (k : Nat) : nI k + 1 = nI (k + 1) := nI_1 k
theorem z_m1 {k : Nat} (h : 0 < k) : nI k + (-1) = nI (k - 1) := by
  obtain ⟨j, rfl⟩ : ∃ j, k = j + 1 := ⟨k - 1, by omega⟩
  exact pk_m1 j
theorem z_sub {a b : Nat} (h : b ≤ a) : nI a - nI b = nI (a - b) := pk_sub h
theorem z_nle {a b : Nat} (h : b < a) : (a ≤ b) = False := eq_false (by omega)
theorem z_nlt {a b : Nat} (h : b ≤ a) : (a < b) = False := eq_false (by omega)
theorem z_yle {a b : Nat} (h : a ≤ b) : (a ≤ b) = True := eq_true h
theorem z_ylt {a b : Nat} (h : a < b) : (a < b) = True := eq_true h
theorem z_neq {a b : Nat} (h : a ≠ b) : (a = b) = False := eq_false h
theorem z_rem {a d : Nat} (ha : a < 2147483648) (h0 : 0 < d) (hd : d < 2147483648) : nI a - nI a / nI d * nI d = nI (a % d) := pk_rem (by omega) h0 (by omega)
theorem z_div {a d : Nat} (ha : a < 2147483648) (h0 : 0 < d) (hd : d < 2147483648) : nI a / nI d = nI (a / d) := pk_div (by omega) h0 (by omega)
theorem q_0 : (0 : Int32) = nI 0 := rfl
theorem q_1 : (1 : Int32) = nI 1 := rfl
theorem q_2 : (2 : Int32) = nI 2 := rfl
theorem q_3 : (3 : Int32) = nI 3 := rfl
theorem q_4 : (4 : Int32) = nI 4 := rfl
theorem q_5 : (5 : Int32) = nI 5 := rfl
theorem q_6 : (6 : Int32) = nI 6 := rfl
theorem q_7 : (7 : Int32) = nI 7 := rfl
theorem q_8 : (8 : Int32) = nI 8 := rfl
theorem q_9 : (9 : Int32) = nI 9 := rfl
theorem q_10 : (10 : Int32) = nI 10 := rfl
theorem q_11 : (11 : Int32) = nI 11 := rfl
theorem q_12 : (12 : Int32) = nI 12 := rfl
theorem q_13 : (13 : Int32) = nI 13 := rfl
theorem q_14 : (14 : Int32) = nI 14 := rfl
theorem q_15 : (15 : Int32) = nI 15 := rfl
theorem q_16 : (16 : Int32) = nI 16 := rfl
theorem q_17 : (17 : Int32) = nI 17 := rfl
theorem q_18 : (18 : Int32) = nI 18 := rfl
theorem q_19 : (19 : Int32) = nI 19 := rfl
theorem q_20 : (20 : Int32) = nI 20 := rfl
theorem q_21 : (21 : Int32) = nI 21 := rfl
theorem q_22 : (22 : Int32) = nI 22 := rfl
theorem q_23 : (23 : Int32) = nI 23 := rfl
theorem q_24 : (24 : Int32) = nI 24 := rfl
theorem q_25 : (25 : Int32) = nI 25 := rfl
theorem q_26 : (26 : Int32) = nI 26 := rfl
theorem q_27 : (27 : Int32) = nI 27 := rfl
theorem q_28 : (28 : Int32) = nI 28 := rfl
theorem q_29 : (29 : Int32) = nI 29 := rfl
theorem q_30 : (30 : Int32) = nI 30 := rfl
theorem q_31 : (31 : Int32) = nI 31 := rfl
theorem q_32 : (32 : Int32) = nI 32 := rfl
theorem q_33 : (33 : Int32) = nI 33 := rfl
theorem q_34 : (34 : Int32) = nI 34 := rfl
theorem q_35 : (35 : Int32) = nI 35 := rfl
theorem q_36 : (36 : Int32) = nI 36 := rfl
theorem q_37 : (37 : Int32) = nI 37 := rfl
theorem q_38 : (38 : Int32) = nI 38 := rfl
theorem q_39 : (39 : Int32) = nI 39 := rfl
theorem q_40 : (40 : Int32) = nI 40 := rfl
theorem q_48 : (48 : Int32) = nI 48 := rfl
theorem q_60 : (60 : Int32) = nI 60 := rfl
theorem q_76 : (76 : Int32) = nI 76 := rfl
theorem q_92 : (92 : Int32) = nI 92 := rfl
theorem q_96 : (96 : Int32) = nI 96 := rfl
theorem q_97 : (97 : Int32) = nI 97 := rfl
theorem q_99 : (99 : Int32) = nI 99 := rfl
theorem q_108 : (108 : Int32) = nI 108 := rfl
theorem q_120 : (120 : Int32) = nI 120 := rfl
theorem q_138 : (138 : Int32) = nI 138 := rfl
theorem q_160 : (160 : Int32) = nI 160 := rfl
theorem q_168 : (168 : Int32) = nI 168 := rfl
theorem q_180 : (180 : Int32) = nI 180 := rfl
theorem q_192 : (192 : Int32) = nI 192 := rfl
theorem q_198 : (198 : Int32) = nI 198 := rfl
theorem q_228 : (228 : Int32) = nI 228 := rfl
theorem q_240 : (240 : Int32) = nI 240 := rfl
theorem q_255 : (255 : Int32) = nI 255 := rfl
theorem q_256 : (256 : Int32) = nI 256 := rfl
theorem q_258 : (258 : Int32) = nI 258 := rfl
theorem q_260 : (260 : Int32) = nI 260 := rfl
theorem q_288 : (288 : Int32) = nI 288 := rfl
theorem q_289 : (289 : Int32) = nI 289 := rfl
theorem q_290 : (290 : Int32) = nI 290 := rfl
theorem q_291 : (291 : Int32) = nI 291 := rfl
theorem q_1000 : (1000 : Int32) = nI 1000 := rfl
theorem q_9999 : (9999 : Int32) = nI 9999 := rfl
theorem q_13849 : (13849 : Int32) = nI 13849 := rfl
theorem q_25173 : (25173 : Int32) = nI 25173 := rfl
theorem q_65535 : (65535 : Int32) = nI 65535 := rfl
theorem q_65536 : (65536 : Int32) = nI 65536 := rfl
theorem q_1048576 : (1048576 : Int32) = nI 1048576 := rfl
theorem z_0add (x : Int32) : (0 : Int32) + x = x := Int32.zero_add x
theorem z_10 : ((1 : Int32) = 0) = False := eq_false (by decide)
theorem z_01 : ((0 : Int32) = 1) = False := eq_false (by decide)
theorem z_00 : ((0 : Int32) = 0) = True := eq_true rfl
theorem z_11 : ((1 : Int32) = 1) = True := eq_true rfl
theorem z_neg1 : (-1 : Int32) = -nI 1 := rfl
theorem z_nne {a : Nat} (ha : a < 2147483648) : (nI a = -1) = False := by
  refine eq_false fun h => ?_
  have h2 : (nI a).toInt = (-1 : Int32).toInt := by rw [h]
  rw [nI_toInt (by omega)] at h2
  have : (-1 : Int32).toInt = -1 := rfl
  omega
/-! reads -/
theorem r_I {s : ax_S} {a j c : Nat} {x : Int32} (h : c ≠ a) : (ax_sI s a j x).2.1 c = s.2.1 c := if_neg h
theorem r_Ie {s : ax_S} {a j : Nat} {x : Int32} : (ax_sI s a j x).2.1 a = upd (s.2.1 a) j x := if_pos rfl
theorem r_A {s : ax_S} {a c : Nat} {f : Nat → Int32} (h : c ≠ a) : (ax_sA s a f).2.1 c = s.2.1 c := if_neg h
theorem r_Ae {s : ax_S} {a : Nat} {f : Nat → Int32} : (ax_sA s a f).2.1 a = f := if_pos rfl
theorem r_L {s : ax_S} {a j : Nat} {x : Int64} : (ax_sL s a j x).2.1 = s.2.1 := rfl
theorem r_IL {s : ax_S} {a j : Nat} {x : Int32} : (ax_sI s a j x).2.2 = s.2.2 := rfl
theorem r_AL {s : ax_S} {a : Nat} {f : Nat → Int32} : (ax_sA s a f).2.2 = s.2.2 := rfl
theorem r_u {f : Nat → Int32} {k : Nat} {x : Int32} : upd f k x k = x := pk_us
theorem r_un {f : Nat → Int32} {k j : Nat} {x : Int32} (h : j ≠ k) : upd f k x j = f j := pk_un h
theorem r_cpy {f g : Nat → Int32} {n j : Nat} (h : j < n) : va_cpy f g 0 0 n j = f j := by
  rw [pk_cpy_in (Nat.zero_le _) (by omega), Nat.zero_add, Nat.sub_zero]
theorem r_cpyo {f g : Nat → Int32} {n j : Nat} (h : n ≤ j) : va_cpy f g 0 0 n j = g j := pk_cpy_out (Or.inr (by omega))
/-! loops -/
theorem z_while {α β : Type} (L : Nat → α → Option β) (I : α → Prop) (μ : α → Nat) (Q : β → Prop) (hs : ∀ n a, I a → (∃ b, L (n + 1) a = some b ∧ Q b) ∨ (∃ a', L (n + 1) a = L n a' ∧ I a' ∧ μ a' < μ a)) : ∀ n a, I a → μ a < n → ∃ b, L n a = some b ∧ Q b := by
  intro n
  induction n with
  | zero => intro a _ h; exact absurd h (Nat.not_lt_zero _)
  | succ n ih =>
    intro a ha hm
    rcases hs n a ha with h | ⟨a', e, h1, h2⟩
    · exact h
    · rw [e]
      exact ih a' h1 (by omega)
theorem z_for {α β : Type} (L : Nat → Nat → α → Option β) (hi : Nat) (I : Nat → α → Prop) (Q : β → Prop) (he : ∀ n a, I hi a → ∃ b, L (n + 1) hi a = some b ∧ Q b) (hs : ∀ n k a, k < hi → I k a → (∃ b, L (n + 1) k a = some b ∧ Q b) ∨ ∃ a', L (n + 1) k a = L n (k + 1) a' ∧ I (k + 1) a') : ∀ n k a, k ≤ hi → I k a → hi - k < n → ∃ b, L n k a = some b ∧ Q b := by
  intro n
  induction n with
  | zero => intro k a _ _ h; exact absurd h (Nat.not_lt_zero _)
  | succ n ih =>
    intro k a hk ha hm
    rcases Nat.lt_or_eq_of_le hk with hlt | rfl
    · rcases hs n k a hlt ha with h | ⟨a', e, h1⟩
      · exact h
      · rw [e]
        exact ih (k + 1) a' (by omega) h1 (by omega)
    · exact he n a ha
/-- n steps of a body from 0 on -/
def z_it {α : Type} (body : Nat → α → α) : Nat → α → α
  | 0, a => a
  | n + 1, a => body n (z_it body n a)
theorem z_fold {α β : Type} (L : Nat → Nat → α → Option β) (hi : Nat) (body : Nat → α → α) (fin : α → β) (he : ∀ n a, L (n + 1) hi a = some (fin a)) (hs : ∀ n k a, k < hi → L (n + 1) k a = L n (k + 1) (body k a)) : ∀ n a, hi < n → L n 0 a = some (fin (z_it body hi a)) := by
  intro n a hn
  obtain ⟨b, h1, h2⟩ := z_for L hi (fun k x => x = z_it body k a) (fun b => b = fin (z_it body hi a)) (fun n x hx => ⟨_, he n x, by rw [hx]⟩) (fun n k x hk hx => Or.inr ⟨_, hs n k x hk, by rw [hx]; rfl⟩) n 0 a (Nat.zero_le _) rfl (by omega)
  rw [h1, h2]
/-- what is joined from 0 on -/
def z_or (g : Nat → Int32) : Nat → Int32
  | 0 => 0
  | n + 1 => z_or g n ||| g n
theorem z_or_congr {g h : Nat → Int32} : ∀ n, (∀ i, i < n → g i = h i) → z_or g n = z_or h n
  | 0, _ => rfl
  | n + 1, e => by
    show z_or g n ||| g n = z_or h n ||| h n
    rw [z_or_congr n (fun i hi => e i (by omega)), e n (by omega)]
def z_sum (g : Nat → Int32) : Nat → Int32
  | 0 => 0
  | n + 1 => z_sum g n + g n
theorem z_sum_congr {g h : Nat → Int32} : ∀ n, (∀ i, i < n → g i = h i) → z_sum g n = z_sum h n
  | 0, _ => rfl
  | n + 1, e => by
    show z_sum g n + g n = z_sum h n + h n
    rw [z_sum_congr n (fun i hi => e i (by omega)), e n (by omega)]
/-! the figures' view: who, left, top, wide, high -/
abbrev z_V : Type := Nat → Nat → Int32
def vX (f : Nat → Nat → Int32) (b : Nat) : z_V := fun k i => f (b + k) i
def vM (f : Nat → Nat → Int32) (r : Nat) : z_V := fun k i => f r (12 * k + i)
def v_tl (F : z_V) (i : Nat) : Prop := ¬ F 0 i = -1
def v_ok (F : z_V) (i : Nat) : Prop := ∃ p l t w h : Nat, p < 16 ∧ 1 ≤ w ∧ 1 ≤ h ∧ l + w ≤ 16 ∧ t + h ≤ 12 ∧ F 0 i = nI p ∧ F 1 i = nI l ∧ F 2 i = nI t ∧ F 3 i = nI w ∧ F 4 i = nI h
def v_R (F G : z_V) : Prop := ∀ i, i < 12 → F 0 i = G 0 i ∧ (G 0 i = -1 ∨ (v_ok G i ∧ F 1 i = G 1 i ∧ F 2 i = G 2 i ∧ F 3 i = G 3 i ∧ F 4 i = G 4 i))
def v_bit (F : z_V) (i : Nat) : Int32 := if F 0 i = -1 then 0 else (1 : Int32) <<< (F 0 i &&& 31)
theorem i_bit {F G : z_V} (h : v_R F G) {i : Nat} (hi : i < 12) : v_bit F i = v_bit G i := by unfold v_bit; rw [(h i hi).1]
theorem M_in_eq (a b c : Int32) (s : ax_S) : M_in a b c s = if a < b then 0 else if c < a then 0 else 1 := rfl
theorem X_within_eq (a b c : Int32) (s : ax_S) : X_isWithin a b c s = M_in a b c s := rfl
theorem z_inX {x : Int32} {s : ax_S} (a b : Nat) (hb : b < 2147483648) (hab : a ≤ b) : M_in x (nI a) (nI b) s = 0 ∨ (M_in x (nI a) (nI b) s = 1 ∧ ∃ n, a ≤ n ∧ n ≤ b ∧ x = nI n) := by
  unfold M_in
  by_cases h1 : x < nI a
  · rw [if_pos h1]; exact Or.inl rfl
  · rw [if_neg h1]
    by_cases h2 : nI b < x
    · rw [if_pos h2]; exact Or.inl rfl
    · rw [if_neg h2]
      refine Or.inr ⟨rfl, ?_⟩
      have e1 := Int32.le_iff_toInt_le.mp (Int32.not_lt.mp h1)
      have e2 := Int32.le_iff_toInt_le.mp (Int32.not_lt.mp h2)
      rw [nI_toInt (by omega)] at e1 e2
      refine ⟨x.toInt.toNat, by omega, by omega, ?_⟩
      apply Int32.toInt_inj.mp
      rw [nI_toInt (by omega)]
      omega
theorem M_fig_eq (s : ax_S) (k : Nat) (h : k < 12) : M_isFigure (nI k) s = some (if s.2.1 64 k = -1 then 0 else 1) := by
  unfold M_isFigure M_in
  simp (disch := omega) only [z_0add, q_11, z_cl, z_lt0, z_lt, z_nlt, z_nle, z_10, if_false, or_self]
  split <;> rfl
theorem X_told_eq (s : ax_S) (k : Nat) (h : k < 12) : XFi_isTold_4 (nI k) s = some (if s.2.1 5 k = -1 then 0 else 1) := by
  unfold XFi_isTold_4
  simp (disch := omega) only [q_12, z_cl, z_lt0, z_le, z_nlt, z_nle, if_false, or_self]
  split <;> rfl
