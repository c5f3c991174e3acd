/-! WHAT THE PURE MACHINE DOES, THE MACHINE DOES (one instruction) -/
def ax_tb : List Jvm.Cond := lw_tbl.filter goodWord
theorem ax_tb_in {w : Jvm.Cond} (h : w ∈ lw_tbl) (g : goodWord w = true) : w ∈ ax_tb := List.mem_filter.mpr ⟨h, g⟩
theorem ax_tb_good : GoodIn ax_tb ax_tb := fun w h => ⟨h, good_of_word (List.mem_filter.mp h).2⟩
def ax_FOK (o x ci j : Nat) : Prop := ∃ (C : String) (T : u_T) (N : Nat) (ref : String), ax_cl[ci]? = some (C, T, N) ∧ j < N ∧ Jvm.Cond.fieldLink (ax_on o) x ref (T j).2.1 (T j).2.2.1 ∈ ax_tb ∧ ((T j).1 = ref ∨ Jvm.Cond.sameField ref (T j).1 (T j).2.1 (T j).2.2.1 ∈ ax_tb)
def ax_KT (ty : FieldType) (k : Nat) : Prop := match k with
  | 0 => ty = .int
  | 1 => ty = .boolean
  | 2 => (∃ n, ty = .object n) ∨ ∃ t, ty = .array t
  | _ => False
def ax_COK (ci : Nat) (C : String) (T : u_T) (N : Nat) : Prop := (∀ w ∈ u_ws C T N, w ∈ ax_tb) ∧ (∀ k, k < N → parseFieldDescriptor (T k).2.2.1 = some (ax_ty ci k)) ∧ (∀ a, a < N → ∀ b, b < N → a ≠ b → (T a).2.1 ≠ (T b).2.1) ∧ (∀ k, k < N → ax_KT (ax_ty ci k) (ax_kd ci k)) ∧ Jvm.Cond.instantiable C N ∈ ax_tb
def ax_tya (t : Nat) : FieldType := match t with
  | 0 => .int
  | 1 => .byte
  | _ => .long
def ax_ar (cA : Nat → ClassId) (q : Nat × Nat) (σ : ax_S) (k : Nat) : Cell := match q.1 with
  | 0 => vp_cell (cA 0) (q.2, .inl (σ.2.1 k))
  | 1 => vp_cell (cA 1) (q.2, .inl (σ.2.1 k))
  | _ => vp_cell (cA 2) (q.2, .inr (.inl (σ.2.2 k)))
def ax_fv (b : Nat) (ph : Bool) (σ : ax_S) (ci k : Nat) : Nat → Value := fun j => match ax_kd ci j with
  | 2 => if ph = true ∨ σ.2.1 k j ≠ 0 then .ref (b + ax_rf k j) else .null
  | _ => .int (σ.2.1 k j)
def ax_ce (D : va_G) (cA : Nat → ClassId) (b : Nat) (ph : Bool) (σ : ax_S) (H : Heap) (k : Nat) : Prop := match ax_sh k with
  | .inl ci => ∃ r : vw_C, ax_cl[ci]? = some r ∧ t_OB (b + k) (D.1 ci) r.2.2 (D.2 ci) H (ax_fv b ph σ ci k)
  | .inr q => H[b + k]? = some (ax_ar cA q σ k)
def ax_wd (D : va_G) (cA : Nat → ClassId) (b : Nat) (ph : Bool) (σ : ax_S) (H : Heap) : Prop := H.size = b + σ.1 ∧ (ph = true → σ.1 = ax_NT) ∧ ∀ k, k < σ.1 → ax_ce D cA b ph σ H k
def ax_cv (b sb : Nat) : Value → Value
  | .ref k => .ref (bif Nat.beq k 1000 then sb else b + k)
  | v => v
def ax_K (D : va_G) (cA : Nat → ClassId) (U : State) : Prop := (∀ (k : Nat) (q : vw_C), ax_cl[k]? = some q → u_Kn U q.1 q.2.1 q.2.2 (D.1 k) (D.2 k)) ∧ (∀ t, t < 3 → ArrOfT U (cA t) (ax_tya t) ∧ U.vm.findClass ("[" ++ (ax_tya t).toString) = some (cA t)) ∧ (∀ q ∈ ax_nl, va_Nw (.methodLinkNest q.1 q.2.1 q.2.2.1 q.2.2.2) U) ∧ (∀ x ∈ ax_dl, va_Nw (.declares x) U)
theorem ax_K.moved {D : va_G} {cA : Nat → ClassId} {s U : State} (hW : s.WarmedH U.vm) (h : ax_K D cA s) : ax_K D cA U :=
  ⟨fun k q hq => u_Kn_moved hW.alike (h.1 k q hq), fun t ht => ⟨arrOfT_moved hW.alike (h.2.1 t ht).1, by rw [hW.alike.findClass]; exact (h.2.1 t ht).2⟩, fun q hq => va_Nw.warmM hW (h.2.2.1 q hq), fun x hx => va_Nw.warmD hW (h.2.2.2 x hx)⟩
theorem ax_K.same {D : va_G} {cA : Nat → ClassId} {u U : State} (h2 : u.vm = U.vm) (h : ax_K D cA u) : ax_K D cA U := by
  have hv : u.vm.Alike U.vm := by rw [h2]; exact Vm.Alike.refl _
  exact ⟨fun k q hq => u_Kn_moved hv (h.1 k q hq), fun t ht => ⟨arrOfT_moved hv (h.2.1 t ht).1, by rw [hv.findClass]; exact (h.2.1 t ht).2⟩, fun q hq => va_Nw.same rfl h2 (h.2.2.1 q hq), fun x hx => va_Nw.same rfl h2 (h.2.2.2 x hx)⟩
theorem ax_cv_cat (b sb : Nat) (v : Value) : (ax_cv b sb v).category = v.category := by cases v <;> rfl
def ax_lh (b sb : Nat) (arr : Array Slot) (ls : ax_L) : Prop := arr.size = ls.length ∧ lv_wf arr ∧ ∀ (i : Nat) (v : Value), ls[i]? = some (some v) → arr[i]? = some (.val (ax_cv b sb v))
theorem ax_getD {ls : ax_L} {k : Nat} {v : Value} (h : ls.getD k none = some v) : ls[k]? = some (some v) := by
  rw [List.getD_eq_getElem?_getD] at h
  cases hk : ls[k]? with
  | none => rw [hk] at h; cases h
  | some x => rw [hk] at h; exact congrArg some h
theorem ax_lh.get {b sb : Nat} {arr : Array Slot} {ls : ax_L} (h : ax_lh b sb arr ls) {k : Nat} {v : Value} (hk : ls.getD k none = some v) : arr[k]? = some (.val (ax_cv b sb v)) := h.2.2 k v (ax_getD hk)
def ax_al (b sb : Nat) (ls : ax_L) : List (Nat × Value) := (List.range ls.length).filterMap (fun i => match ls[i]? with
  | some (some v) => some (i, ax_cv b sb v)
  | _ => none)
theorem ax_al_in {b sb : Nat} {ls : ax_L} {i : Nat} {v : Value} (h : ls[i]? = some (some v)) : (i, ax_cv b sb v) ∈ ax_al b sb ls := by
  refine List.mem_filterMap.mpr ⟨i, List.mem_range.mpr (List.getElem?_eq_some_iff.mp h).1, ?_⟩
  rw [h]
theorem ax_lh.has {b sb : Nat} {arr : Array Slot} {ls : ax_L} (h : ax_lh b sb arr ls) : lv_has arr ls.length (ax_al b sb ls) := by
  refine ⟨h.1, h.2.1, fun q hq => ?_⟩
  obtain ⟨i, -, hi⟩ := List.mem_filterMap.mp hq
  split at hi
  · rename_i v hv
    cases hi
    exact h.2.2 i v hv
  · cases hi
theorem ax_set_in {ls : ax_L} {i k : Nat} {v : Option Value} {w : Value} (hi : i ≠ k) (h : (ls.set k v)[i]? = some (some w)) : ls[i]? = some (some w) := by
  rwa [List.getElem?_set_ne (Ne.symm hi)] at h
theorem ax_kill_in {ls : ax_L} {i k : Nat} {w : Value} (h : (ax_kill ls k)[i]? = some (some w)) : ls[i]? = some (some w) ∧ ¬ (i = k ∧ w.category = 2) := by
  unfold ax_kill at h
  cases hc : ax_isL (ls.getD k none) with
  | true =>
    rw [hc] at h
    simp only [cond_true] at h
    by_cases hik : i = k
    · subst hik
      rw [List.getElem?_set] at h
      simp at h
    · exact ⟨ax_set_in hik h, fun q => hik q.1⟩
  | false =>
    rw [hc] at h
    simp only [cond_false] at h
    refine ⟨h, fun q => ?_⟩
    obtain ⟨rfl, q2⟩ := q
    rw [List.getD_eq_getElem?_getD, h] at hc
    simp [ax_isL, q2] at hc
theorem ax_lh_1 {b sb : Nat} {arr : Array Slot} {ls : ax_L} {k : Nat} {v : Value} (hk : k < ls.length) (h : lv_has arr ls.length ((k, ax_cv b sb v) :: (ax_al b sb ls).filter (fun q => !(q.1 == k) && !(q.1 + 1 == k && q.2.category == 2)))) : ax_lh b sb arr (ax_st1 ls k v) := by
  have hlen : (ax_st1 ls k v).length = ls.length := by
    unfold ax_st1 ax_kill
    cases ax_isL (ls.getD (k - 1) none) <;> simp
  refine ⟨by rw [hlen]; exact h.1, h.2.1, fun i w hw => ?_⟩
  have hkl : (ax_kill ls (k - 1)).length = ls.length := by
    unfold ax_kill
    cases ax_isL (ls.getD (k - 1) none) <;> simp
  by_cases hik : i = k
  · subst hik
    unfold ax_st1 at hw
    rw [List.getElem?_set_self (by rw [hkl]; exact hk)] at hw
    cases hw
    exact h.2.2 (i, ax_cv b sb v) List.mem_cons_self
  · obtain ⟨h1, h2⟩ := ax_kill_in (ax_set_in hik hw)
    refine h.2.2 (i, ax_cv b sb w) (List.mem_cons_of_mem _ (List.mem_filter.mpr ⟨ax_al_in h1, ?_⟩))
    simp only [ax_cv_cat, Bool.and_eq_true, Bool.not_eq_true', beq_eq_false_iff_ne, ne_eq, Bool.and_eq_false_imp, beq_iff_eq]
    exact ⟨hik, fun e1 e2 => h2 ⟨by omega, e2⟩⟩
theorem ax_lh_2 {b sb : Nat} {arr : Array Slot} {ls : ax_L} {k : Nat} {v : Value} (hk : k + 1 < ls.length) (h : lv_has arr ls.length ((k, ax_cv b sb v) :: (ax_al b sb ls).filter (fun q => !(q.1 == k) && (!(q.1 == k + 1) && !(q.1 + 1 == k && q.2.category == 2))))) : ax_lh b sb arr (ax_st2 ls k v) := by
  have hlen : (ax_st2 ls k v).length = ls.length := by
    unfold ax_st2 ax_kill
    cases ax_isL (ls.getD (k - 1) none) <;> simp
  refine ⟨by rw [hlen]; exact h.1, h.2.1, fun i w hw => ?_⟩
  have hkl : (ax_kill ls (k - 1)).length = ls.length := by
    unfold ax_kill
    cases ax_isL (ls.getD (k - 1) none) <;> simp
  unfold ax_st2 at hw
  have hi1 : i ≠ k + 1 := by
    intro e
    subst e
    rw [List.getElem?_set] at hw
    simp at hw
  have hw := ax_set_in hi1 hw
  by_cases hik : i = k
  · subst hik
    rw [List.getElem?_set_self (by rw [hkl]; omega)] at hw
    cases hw
    exact h.2.2 (i, ax_cv b sb v) List.mem_cons_self
  · obtain ⟨h1, h2⟩ := ax_kill_in (ax_set_in hik hw)
    refine h.2.2 (i, ax_cv b sb w) (List.mem_cons_of_mem _ (List.mem_filter.mpr ⟨ax_al_in h1, ?_⟩))
    simp only [ax_cv_cat, Bool.and_eq_true, Bool.not_eq_true', beq_eq_false_iff_ne, ne_eq, Bool.and_eq_false_imp, beq_iff_eq]
    exact ⟨hik, hi1, fun e1 e2 => h2 ⟨by omega, e2⟩⟩
theorem ax_en_len (b sb : Nat) (vs : List Value) : (lg_sl (vs.map (ax_cv b sb))).length = (ax_en vs).length := by
  induction vs with
  | nil => rfl
  | cons v vs ih =>
    have e : lg_sl ((v :: vs).map (ax_cv b sb)) = (if v.category = 2 then [Slot.val (ax_cv b sb v), Slot.second] else [Slot.val (ax_cv b sb v)]) ++ lg_sl (vs.map (ax_cv b sb)) := by
      simp only [lg_sl, List.map_cons, List.flatMap_cons, ax_cv_cat]
    rw [e, List.length_append, ih]
    rcases lv_cat v with h | h
    · simp only [ax_en, h, show ¬ (1 = 2) from by decide, if_false, show Nat.beq 1 2 = false from rfl, cond_false, List.length_cons, List.length_nil]
      omega
    · simp only [ax_en, h, if_true, show Nat.beq 2 2 = true from rfl, cond_true, List.length_cons, List.length_nil]
      omega
theorem ax_en_in (b sb : Nat) : ∀ (vs : List Value) (k i : Nat) (w : Value), (ax_en vs)[i]? = some (some w) → (k + i, ax_cv b sb w) ∈ lv_args k (vs.map (ax_cv b sb)) := by
  intro vs
  induction vs with
  | nil => intro k i w h; simp [ax_en] at h
  | cons v vs ih =>
    intro k i w h
    simp only [List.map_cons, lv_args, ax_cv_cat]
    rcases lv_cat v with hc | hc
    · simp only [ax_en, hc, show Nat.beq 1 2 = false from rfl, cond_false] at h
      cases i with
      | zero => simp at h; subst h; exact List.mem_cons_self
      | succ i =>
        simp only [List.getElem?_cons_succ] at h
        refine List.mem_cons_of_mem _ ?_
        simp only [hc, show ¬ (1 = 2) from by decide, if_false]
        have := ih (k + 1) i w h
        rwa [show k + 1 + i = k + (i + 1) by omega] at this
    · simp only [ax_en, hc, show Nat.beq 2 2 = true from rfl, cond_true] at h
      match i, h with
      | 0, h => simp at h; subst h; exact List.mem_cons_self
      | 1, h => simp at h
      | i + 2, h =>
        simp only [List.getElem?_cons_succ] at h
        refine List.mem_cons_of_mem _ ?_
        simp only [hc, if_true]
        have := ih (k + 2) i w h
        rwa [show k + 2 + i = k + (i + 2) by omega] at this
theorem ax_lh_entry (b sb : Nat) (M : ax_M) (vs : List Value) (hn : (ax_en vs).length ≤ M.2.2.1) : ax_lh b sb ((lg_sl (vs.map (ax_cv b sb)) ++ List.replicate (M.2.2.1 - (lg_sl (vs.map (ax_cv b sb))).length) Slot.unset).toArray) (ax_lc M vs) := by
  obtain ⟨h1, h2, h3⟩ := lv_entry (vs.map (ax_cv b sb)) (n := M.2.2.1) (by rw [ax_en_len]; exact hn)
  refine ⟨by rw [h1]; simp [ax_lc]; omega, h2, fun i w hw => ?_⟩
  refine h3 (i, ax_cv b sb w) ?_
  have : (ax_en vs)[i]? = some (some w) := by
    unfold ax_lc at hw
    by_cases hi : i < (ax_en vs).length
    · rwa [List.getElem?_append_left hi] at hw
    · rw [List.getElem?_append_right (by omega), List.getElem?_replicate] at hw
      split at hw <;> simp at hw
  have := ax_en_in b sb vs 0 i w this
  rwa [Nat.zero_add] at this
