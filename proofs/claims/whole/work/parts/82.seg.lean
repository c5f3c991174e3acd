/-! law: what a piece of the class's code does -/
def l_x (a : Option Int32) : Int64 := match a with
  | none => 1099511627776
  | some v => v.toInt64
theorem l_x1 (a : Option Int32) : (lg_cmp (l_x a) 1 = 0) ↔ a = some 1 := by
  rw [lg_cmp_eq]
  cases a with
  | none => exact ⟨fun h => absurd h (by decide), fun h => by cases h⟩
  | some v =>
    show v.toInt64 = 1 ↔ _
    constructor
    · intro h
      have := congrArg Int64.toInt32 h
      rw [i_32] at this
      rw [this]; rfl
    · intro h; cases h; decide
theorem l_x0 (a : Option Int32) : (lg_cmp (l_x a) 0 = 0) ↔ a = some 0 := by
  rw [lg_cmp_eq]
  cases a with
  | none => exact ⟨fun h => absurd h (by decide), fun h => by cases h⟩
  | some v =>
    show v.toInt64 = 0 ↔ _
    constructor
    · intro h
      have := congrArg Int64.toInt32 h
      rw [i_32] at this
      rw [this]; rfl
    · intro h; cases h; decide
theorem l_xn (a : Option Int32) : (lg_cmp (l_x a) 1099511627776 = 0) ↔ a = none := by
  rw [lg_cmp_eq]
  cases a with
  | none => exact ⟨fun _ => rfl, fun _ => rfl⟩
  | some v => exact ⟨fun h => absurd h (i_big v), fun h => by cases h⟩
def l_op (op : Nat) (a b : Int32) : Option Int32 :=
  if op = 37 then (if b = 0 then none else some (a - a / b * b)) else
  if op = 42 then some (a * b) else
  if op = 43 then some (a + b) else
  if op = 45 then some (a - b) else
  if op = 47 then (if b = 0 then none else some (a / b)) else
  if op = 60 then (if b ≤ a then some 0 else some 1) else
  if op = 62 then (if a ≤ b then some 0 else some 1) else
  if a = b then some 1 else some 0
def l_join (op : Nat) (a b : Option Int32) : Option Int32 :=
  if op = 38 then (if a = some 1 then b else a) else
  if op = 124 then (if a = some 0 then b else a) else
  match a, b with
  | some x, some y => l_op op x y
  | _, _ => none
theorem l_joined (op : Nat) (ho : op < 256) (a b : Option Int32) (s : ax_S) : XLa_joined (nI op) (l_x a) (l_x b) s = some (l_x (l_join op a b)) := by
  unfold XLa_joined l_join
  have e : ∀ k, k < 256 → ((nI op = nI k) ↔ op = k) := fun k hk => by rw [z_eq (by omega) (by omega)]
  simp only [show (nI op = 38) ↔ op = 38 from e 38 (by omega), show (nI op = 124) ↔ op = 124 from e 124 (by omega), show (nI op = 37) ↔ op = 37 from e 37 (by omega), show (nI op = 42) ↔ op = 42 from e 42 (by omega), show (nI op = 43) ↔ op = 43 from e 43 (by omega), show (nI op = 45) ↔ op = 45 from e 45 (by omega), show (nI op = 47) ↔ op = 47 from e 47 (by omega), show (nI op = 60) ↔ op = 60 from e 60 (by omega), show (nI op = 62) ↔ op = 62 from e 62 (by omega), l_x1, l_x0, l_xn]
  by_cases c1 : op = 38
  · simp only [c1, if_true]
    by_cases d : a = some 1
    · rw [if_pos d, if_pos d]
    · rw [if_neg d, if_neg d]
  simp only [c1, if_false]
  by_cases c2 : op = 124
  · simp only [c2, if_true]
    by_cases d : a = some 0
    · rw [if_pos d, if_pos d]
    · rw [if_neg d, if_neg d]
  simp only [c2, if_false]
  cases a with
  | none => simp only [if_true]; rfl
  | some x =>
    cases b with
    | none => simp only [if_true, reduceCtorEq, if_false]; rfl
    | some y =>
      simp only [reduceCtorEq, if_false]
      show _ = some (l_x (l_op op x y))
      unfold l_op
      have hx : (l_x (some x)).toInt32 = x := i_32 x
      have hy : (l_x (some y)).toInt32 = y := i_32 y
      simp only [hx, hy]
      repeat' split
      all_goals first | contradiction | rfl | decide
/-- codes i to i + m of rows 41 and 42 push V, with D places at most -/
def l_seg (F G : Nat → Int32) (i m : Nat) (V : (Nat → Int32) → Option Int32) (D : Nat) : Prop :=
  ∀ (s : ax_S) (h e n : Nat), (∀ q, i ≤ q → q < i + m → s.2.1 41 q = F q ∧ s.2.1 42 q = G q) → i + m ≤ e → e ≤ 256 → h + D ≤ 64 →
    ∃ t : ax_S, XLa_reckon_36_l9 (n + m) (nI e) (nI h) (nI i) s = XLa_reckon_36_l9 n (nI e) (nI (h + 1)) (nI (i + m)) t ∧ t.2.1 = s.2.1 ∧ (∀ q, q < h → t.2.2 43 q = s.2.2 43 q) ∧ t.2.2 43 h = l_x (V (y_e fun i => s.2.1 36 (9 + i)))
theorem l_lup {s : ax_S} {k : Nat} {x : Int64} (q : Nat) : (ax_sL s 43 k x).2.2 43 q = if q = k then x else s.2.2 43 q := by
  by_cases c : q = k
  · subst c
    rw [if_pos rfl]
    unfold ax_sL
    simp only [if_true]
    exact pk_uLs
  · rw [if_neg c]
    unfold ax_sL
    simp only [if_true]
    exact pk_uLn c
theorem l_seg_num {F G : Nat → Int32} {i : Nat} (h0 : F i = 0) : l_seg F G i 1 (fun _ => some (G i)) 1 := by
  intro s h e n hF he he2 hh
  obtain ⟨f1, f2⟩ := hF i (Nat.le_refl i) (by omega)
  refine ⟨ax_sL s 43 h (G i).toInt64, ?_, rfl, fun q hq => by rw [l_lup, if_neg (by omega)], by rw [l_lup, if_pos rfl]; rfl⟩
  rw [XLa_reckon_36_l9, if_neg (by rw [z_le (by omega) (by omega)]; omega), if_neg (by rw [q_256, z_le (by omega) (by omega)]; omega)]
  simp (disch := omega) only [z_cl, z_lt0, z_nle, or_self, if_false, f1, f2, h0, if_true, z_1]
  rw [if_neg (by rw [show (64 : Int32) = nI 64 from rfl, z_le (by omega) (by omega)]; omega)]
