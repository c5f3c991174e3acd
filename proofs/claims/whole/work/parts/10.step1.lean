theorem ax_bif {c : Bool} {P : Prop} (h : bif c then P else False) : c = true ∧ P := by
  cases c
  · exact h.elim
  · exact ⟨rfl, h⟩
theorem ax_blt {a b : Nat} (h : Nat.blt a b = true) : a < b := Nat.le_of_ble_eq_true h
theorem ax_dec {M : ax_M} (hMO : ax_MOK M) {pc : Nat} {i : Instr} {len : Nat} (hi : M.2.2.2.2.2 pc = some (i, len)) (hne : ax_ln i ≠ 0) : decode M.2.1 pc = .ok (i, ax_ln i) := by
  obtain ⟨h1, h2⟩ := hMO.1 pc i len hi
  unfold ax_iok at h2
  simp only [Bool.and_eq_true, Bool.or_eq_true] at h2
  rcases h2.1 with h | h
  · rw [Nat.eq_of_beq_eq_true h]; exact h1
  · exact absurd (Nat.eq_of_beq_eq_true h) hne
section
variable {p : Program} {l : Launch} {e : Env} {R : Room} {s : State} {m : MethodId} {args : Array Value} {below : List Frame} {meth : Method} {c : Code} {H : Heap} {locs : List Loc} {Q : State → Prop}
variable {D : va_G} {cA : Nat → ClassId} {b sb : Nat} {ph : Bool} {X : ax_X} {E : ax_E} {M : ax_M} {d n0 nF nL : Nat}
variable {pc : Nat} {i : Instr} {len : Nat} {arr : Array Slot} {ls : ax_L} {st : List Value} {σ : ax_S} {K : Nat → ax_L → List Value → ax_S → Prop} {Rt : Option Value → ax_S → Prop}
/-- what holds behind an instruction brings the end -/
def ax_Nx (p : Program) (l : Launch) (e : Env) (R : Room) (s : State) (m : MethodId) (args : Array Value) (below : List Frame) (meth : Method) (c : Code) (Q : State → Prop) (D : va_G) (cA : Nat → ClassId) (b sb : Nat) (ph : Bool) (n0 nL : Nat) (σ : ax_S) (K : Nat → ax_L → List Value → ax_S → Prop) : Prop := ∀ (pc' : Nat) (ls' : ax_L) (st' : List Value) (σ' : ax_S) (H' : Heap) (locs' : List Loc) (arr' : Array Slot), K pc' ls' st' σ' → σ.1 ≤ σ'.1 → ax_wd D cA b ph σ' H' → va_S (ax_A b) s.heap H' locs' → ax_lh b sb arr' ls' → arr'.size = nL → ax_at p l e R s m args below meth c Q b sb n0 H' locs' pc' arr' st' σ'

theorem ax_s_iconst {n : Int} (hO : ax_On p l R s m args meth c D cA b sb ph X E M d n0 nF nL) (hi : M.2.2.2.2.2 pc = some (.iconst n, len)) (h : ax_ins ph X E M (.iconst n) pc ls st σ K Rt) (hsz : arr.size = nL) (hl : ax_lh b sb arr ls) (hw : ax_wd D cA b ph σ H) (hS : va_S (ax_A b) s.heap H locs) (hn0 : n0 ≤ σ.1) (hF : σ.1 ≤ nF) (hKF : ∀ pc ls st σ', K pc ls st σ' → σ'.1 ≤ nF) (hK : ax_Nx p l e R s m args below meth c Q D cA b sb ph n0 nL σ K) : ax_at p l e R s m args below meth c Q b sb n0 H locs pc arr st σ := by
  obtain ⟨hT, hMO, ⟨hx, hb, hml, hown, hts⟩, hKn, hnm, hX, hE, hEm, hfr, hlo, hRc, hRs⟩ := hO
  have hdec := ax_dec hMO hi (Nat.succ_ne_zero _)
  dsimp only [ax_ins] at h
  exact lv_iconst hx hb hdec rfl (hK _ _ _ _ _ _ _ h (Nat.le_refl _) hw hS hl hsz)
theorem ax_s_bipush {n : Int} (hO : ax_On p l R s m args meth c D cA b sb ph X E M d n0 nF nL) (hi : M.2.2.2.2.2 pc = some (.bipush n, len)) (h : ax_ins ph X E M (.bipush n) pc ls st σ K Rt) (hsz : arr.size = nL) (hl : ax_lh b sb arr ls) (hw : ax_wd D cA b ph σ H) (hS : va_S (ax_A b) s.heap H locs) (hn0 : n0 ≤ σ.1) (hF : σ.1 ≤ nF) (hKF : ∀ pc ls st σ', K pc ls st σ' → σ'.1 ≤ nF) (hK : ax_Nx p l e R s m args below meth c Q D cA b sb ph n0 nL σ K) : ax_at p l e R s m args below meth c Q b sb n0 H locs pc arr st σ := by
  obtain ⟨hT, hMO, ⟨hx, hb, hml, hown, hts⟩, hKn, hnm, hX, hE, hEm, hfr, hlo, hRc, hRs⟩ := hO
  have hdec := ax_dec hMO hi (Nat.succ_ne_zero _)
  dsimp only [ax_ins] at h
  exact lv_bipush hx hb hdec rfl (hK _ _ _ _ _ _ _ h (Nat.le_refl _) hw hS hl hsz)
theorem ax_s_sipush {n : Int} (hO : ax_On p l R s m args meth c D cA b sb ph X E M d n0 nF nL) (hi : M.2.2.2.2.2 pc = some (.sipush n, len)) (h : ax_ins ph X E M (.sipush n) pc ls st σ K Rt) (hsz : arr.size = nL) (hl : ax_lh b sb arr ls) (hw : ax_wd D cA b ph σ H) (hS : va_S (ax_A b) s.heap H locs) (hn0 : n0 ≤ σ.1) (hF : σ.1 ≤ nF) (hKF : ∀ pc ls st σ', K pc ls st σ' → σ'.1 ≤ nF) (hK : ax_Nx p l e R s m args below meth c Q D cA b sb ph n0 nL σ K) : ax_at p l e R s m args below meth c Q b sb n0 H locs pc arr st σ := by
  obtain ⟨hT, hMO, ⟨hx, hb, hml, hown, hts⟩, hKn, hnm, hX, hE, hEm, hfr, hlo, hRc, hRs⟩ := hO
  have hdec := ax_dec hMO hi (Nat.succ_ne_zero _)
  dsimp only [ax_ins] at h
  exact lv_sipush hx hb hdec rfl (hK _ _ _ _ _ _ _ h (Nat.le_refl _) hw hS hl hsz)
theorem ax_s_lconst {n : Fin 2} (hO : ax_On p l R s m args meth c D cA b sb ph X E M d n0 nF nL) (hi : M.2.2.2.2.2 pc = some (.lconst n, len)) (h : ax_ins ph X E M (.lconst n) pc ls st σ K Rt) (hsz : arr.size = nL) (hl : ax_lh b sb arr ls) (hw : ax_wd D cA b ph σ H) (hS : va_S (ax_A b) s.heap H locs) (hn0 : n0 ≤ σ.1) (hF : σ.1 ≤ nF) (hKF : ∀ pc ls st σ', K pc ls st σ' → σ'.1 ≤ nF) (hK : ax_Nx p l e R s m args below meth c Q D cA b sb ph n0 nL σ K) : ax_at p l e R s m args below meth c Q b sb n0 H locs pc arr st σ := by
  obtain ⟨hT, hMO, ⟨hx, hb, hml, hown, hts⟩, hKn, hnm, hX, hE, hEm, hfr, hlo, hRc, hRs⟩ := hO
  have hdec := ax_dec hMO hi (Nat.succ_ne_zero _)
  dsimp only [ax_ins] at h
  exact lv_lconst hx hb hdec rfl (hK _ _ _ _ _ _ _ h (Nat.le_refl _) hw hS hl hsz)
theorem ax_s_ldc {x : Nat} (hO : ax_On p l R s m args meth c D cA b sb ph X E M d n0 nF nL) (hi : M.2.2.2.2.2 pc = some (.ldc x, len)) (h : ax_ins ph X E M (.ldc x) pc ls st σ K Rt) (hsz : arr.size = nL) (hl : ax_lh b sb arr ls) (hw : ax_wd D cA b ph σ H) (hS : va_S (ax_A b) s.heap H locs) (hn0 : n0 ≤ σ.1) (hF : σ.1 ≤ nF) (hKF : ∀ pc ls st σ', K pc ls st σ' → σ'.1 ≤ nF) (hK : ax_Nx p l e R s m args below meth c Q D cA b sb ph n0 nL σ K) : ax_at p l e R s m args below meth c Q b sb n0 H locs pc arr st σ := by
  obtain ⟨hT, hMO, ⟨hx, hb, hml, hown, hts⟩, hKn, hnm, hX, hE, hEm, hfr, hlo, hRc, hRs⟩ := hO
  have hdec := ax_dec hMO hi (Nat.succ_ne_zero _)
  dsimp only [ax_ins] at h
  split at h
  · rename_i v hv
    exact lv_ldc hx hb hown (hts _ (hT.2.2.2.2.2.1 _ _ _ hv)) hdec (hK _ _ _ _ _ _ _ h (Nat.le_refl _) hw hS hl hsz)
  · exact h.elim
theorem ax_s_ldc_w {x : Nat} (hO : ax_On p l R s m args meth c D cA b sb ph X E M d n0 nF nL) (hi : M.2.2.2.2.2 pc = some (.ldc_w x, len)) (h : ax_ins ph X E M (.ldc_w x) pc ls st σ K Rt) (hsz : arr.size = nL) (hl : ax_lh b sb arr ls) (hw : ax_wd D cA b ph σ H) (hS : va_S (ax_A b) s.heap H locs) (hn0 : n0 ≤ σ.1) (hF : σ.1 ≤ nF) (hKF : ∀ pc ls st σ', K pc ls st σ' → σ'.1 ≤ nF) (hK : ax_Nx p l e R s m args below meth c Q D cA b sb ph n0 nL σ K) : ax_at p l e R s m args below meth c Q b sb n0 H locs pc arr st σ := by
  obtain ⟨hT, hMO, ⟨hx, hb, hml, hown, hts⟩, hKn, hnm, hX, hE, hEm, hfr, hlo, hRc, hRs⟩ := hO
  have hdec := ax_dec hMO hi (Nat.succ_ne_zero _)
  dsimp only [ax_ins] at h
  split at h
  · rename_i v hv
    exact lv_ldcw hx hb hown (hts _ (hT.2.2.2.2.2.1 _ _ _ hv)) hdec (hK _ _ _ _ _ _ _ h (Nat.le_refl _) hw hS hl hsz)
  · exact h.elim
theorem ax_s_ldc2_w {x : Nat} (hO : ax_On p l R s m args meth c D cA b sb ph X E M d n0 nF nL) (hi : M.2.2.2.2.2 pc = some (.ldc2_w x, len)) (h : ax_ins ph X E M (.ldc2_w x) pc ls st σ K Rt) (hsz : arr.size = nL) (hl : ax_lh b sb arr ls) (hw : ax_wd D cA b ph σ H) (hS : va_S (ax_A b) s.heap H locs) (hn0 : n0 ≤ σ.1) (hF : σ.1 ≤ nF) (hKF : ∀ pc ls st σ', K pc ls st σ' → σ'.1 ≤ nF) (hK : ax_Nx p l e R s m args below meth c Q D cA b sb ph n0 nL σ K) : ax_at p l e R s m args below meth c Q b sb n0 H locs pc arr st σ := by
  obtain ⟨hT, hMO, ⟨hx, hb, hml, hown, hts⟩, hKn, hnm, hX, hE, hEm, hfr, hlo, hRc, hRs⟩ := hO
  have hdec := ax_dec hMO hi (Nat.succ_ne_zero _)
  dsimp only [ax_ins] at h
  split at h
  · rename_i v hv
    exact lv_ldc2 hx hb hown (hts _ (hT.2.2.2.2.2.2.1 _ _ _ hv)) hdec (hK _ _ _ _ _ _ _ h (Nat.le_refl _) hw hS hl hsz)
  · exact h.elim
theorem ax_s_iload_n {k : Fin 4} (hO : ax_On p l R s m args meth c D cA b sb ph X E M d n0 nF nL) (hi : M.2.2.2.2.2 pc = some (.iload_n k, len)) (h : ax_ins ph X E M (.iload_n k) pc ls st σ K Rt) (hsz : arr.size = nL) (hl : ax_lh b sb arr ls) (hw : ax_wd D cA b ph σ H) (hS : va_S (ax_A b) s.heap H locs) (hn0 : n0 ≤ σ.1) (hF : σ.1 ≤ nF) (hKF : ∀ pc ls st σ', K pc ls st σ' → σ'.1 ≤ nF) (hK : ax_Nx p l e R s m args below meth c Q D cA b sb ph n0 nL σ K) : ax_at p l e R s m args below meth c Q b sb n0 H locs pc arr st σ := by
  obtain ⟨hT, hMO, ⟨hx, hb, hml, hown, hts⟩, hKn, hnm, hX, hE, hEm, hfr, hlo, hRc, hRs⟩ := hO
  have hdec := ax_dec hMO hi (Nat.succ_ne_zero _)
  dsimp only [ax_ins] at h
  split at h
  · rename_i v hv
    exact lv_iload_n hx hb hdec rfl (hl.get hv) (hK _ _ _ _ _ _ _ h (Nat.le_refl _) hw hS hl hsz)
  · exact h.elim
theorem ax_s_lload_n {k : Fin 4} (hO : ax_On p l R s m args meth c D cA b sb ph X E M d n0 nF nL) (hi : M.2.2.2.2.2 pc = some (.lload_n k, len)) (h : ax_ins ph X E M (.lload_n k) pc ls st σ K Rt) (hsz : arr.size = nL) (hl : ax_lh b sb arr ls) (hw : ax_wd D cA b ph σ H) (hS : va_S (ax_A b) s.heap H locs) (hn0 : n0 ≤ σ.1) (hF : σ.1 ≤ nF) (hKF : ∀ pc ls st σ', K pc ls st σ' → σ'.1 ≤ nF) (hK : ax_Nx p l e R s m args below meth c Q D cA b sb ph n0 nL σ K) : ax_at p l e R s m args below meth c Q b sb n0 H locs pc arr st σ := by
  obtain ⟨hT, hMO, ⟨hx, hb, hml, hown, hts⟩, hKn, hnm, hX, hE, hEm, hfr, hlo, hRc, hRs⟩ := hO
  have hdec := ax_dec hMO hi (Nat.succ_ne_zero _)
  dsimp only [ax_ins] at h
  split at h
  · rename_i v hv
    exact lv_lload_n hx hb hdec rfl (hl.get hv) (hK _ _ _ _ _ _ _ h (Nat.le_refl _) hw hS hl hsz)
  · exact h.elim
theorem ax_s_aload_n {k : Fin 4} (hO : ax_On p l R s m args meth c D cA b sb ph X E M d n0 nF nL) (hi : M.2.2.2.2.2 pc = some (.aload_n k, len)) (h : ax_ins ph X E M (.aload_n k) pc ls st σ K Rt) (hsz : arr.size = nL) (hl : ax_lh b sb arr ls) (hw : ax_wd D cA b ph σ H) (hS : va_S (ax_A b) s.heap H locs) (hn0 : n0 ≤ σ.1) (hF : σ.1 ≤ nF) (hKF : ∀ pc ls st σ', K pc ls st σ' → σ'.1 ≤ nF) (hK : ax_Nx p l e R s m args below meth c Q D cA b sb ph n0 nL σ K) : ax_at p l e R s m args below meth c Q b sb n0 H locs pc arr st σ := by
  obtain ⟨hT, hMO, ⟨hx, hb, hml, hown, hts⟩, hKn, hnm, hX, hE, hEm, hfr, hlo, hRc, hRs⟩ := hO
  have hdec := ax_dec hMO hi (Nat.succ_ne_zero _)
  dsimp only [ax_ins] at h
  split at h
  · rename_i v hv
    exact lv_aload_n hx hb hdec rfl (hl.get hv) (hK _ _ _ _ _ _ _ h (Nat.le_refl _) hw hS hl hsz)
  · exact h.elim
theorem ax_s_iload {k : Nat} (hO : ax_On p l R s m args meth c D cA b sb ph X E M d n0 nF nL) (hi : M.2.2.2.2.2 pc = some (.iload k, len)) (h : ax_ins ph X E M (.iload k) pc ls st σ K Rt) (hsz : arr.size = nL) (hl : ax_lh b sb arr ls) (hw : ax_wd D cA b ph σ H) (hS : va_S (ax_A b) s.heap H locs) (hn0 : n0 ≤ σ.1) (hF : σ.1 ≤ nF) (hKF : ∀ pc ls st σ', K pc ls st σ' → σ'.1 ≤ nF) (hK : ax_Nx p l e R s m args below meth c Q D cA b sb ph n0 nL σ K) : ax_at p l e R s m args below meth c Q b sb n0 H locs pc arr st σ := by
  obtain ⟨hT, hMO, ⟨hx, hb, hml, hown, hts⟩, hKn, hnm, hX, hE, hEm, hfr, hlo, hRc, hRs⟩ := hO
  have hdec := ax_dec hMO hi (Nat.succ_ne_zero _)
  dsimp only [ax_ins] at h
  split at h
  · rename_i v hv
    exact lv_iload hx hb hdec (hl.get hv) (hK _ _ _ _ _ _ _ h (Nat.le_refl _) hw hS hl hsz)
  · exact h.elim
theorem ax_s_lload {k : Nat} (hO : ax_On p l R s m args meth c D cA b sb ph X E M d n0 nF nL) (hi : M.2.2.2.2.2 pc = some (.lload k, len)) (h : ax_ins ph X E M (.lload k) pc ls st σ K Rt) (hsz : arr.size = nL) (hl : ax_lh b sb arr ls) (hw : ax_wd D cA b ph σ H) (hS : va_S (ax_A b) s.heap H locs) (hn0 : n0 ≤ σ.1) (hF : σ.1 ≤ nF) (hKF : ∀ pc ls st σ', K pc ls st σ' → σ'.1 ≤ nF) (hK : ax_Nx p l e R s m args below meth c Q D cA b sb ph n0 nL σ K) : ax_at p l e R s m args below meth c Q b sb n0 H locs pc arr st σ := by
  obtain ⟨hT, hMO, ⟨hx, hb, hml, hown, hts⟩, hKn, hnm, hX, hE, hEm, hfr, hlo, hRc, hRs⟩ := hO
  have hdec := ax_dec hMO hi (Nat.succ_ne_zero _)
  dsimp only [ax_ins] at h
  split at h
  · rename_i v hv
    exact lv_lload hx hb hdec (hl.get hv) (hK _ _ _ _ _ _ _ h (Nat.le_refl _) hw hS hl hsz)
  · exact h.elim
theorem ax_s_aload {k : Nat} (hO : ax_On p l R s m args meth c D cA b sb ph X E M d n0 nF nL) (hi : M.2.2.2.2.2 pc = some (.aload k, len)) (h : ax_ins ph X E M (.aload k) pc ls st σ K Rt) (hsz : arr.size = nL) (hl : ax_lh b sb arr ls) (hw : ax_wd D cA b ph σ H) (hS : va_S (ax_A b) s.heap H locs) (hn0 : n0 ≤ σ.1) (hF : σ.1 ≤ nF) (hKF : ∀ pc ls st σ', K pc ls st σ' → σ'.1 ≤ nF) (hK : ax_Nx p l e R s m args below meth c Q D cA b sb ph n0 nL σ K) : ax_at p l e R s m args below meth c Q b sb n0 H locs pc arr st σ := by
  obtain ⟨hT, hMO, ⟨hx, hb, hml, hown, hts⟩, hKn, hnm, hX, hE, hEm, hfr, hlo, hRc, hRs⟩ := hO
  have hdec := ax_dec hMO hi (Nat.succ_ne_zero _)
  dsimp only [ax_ins] at h
  split at h
  · rename_i v hv
    exact lv_aload hx hb hdec (hl.get hv) (hK _ _ _ _ _ _ _ h (Nat.le_refl _) hw hS hl hsz)
  · exact h.elim
theorem ax_s_istore_n {k : Fin 4} (hO : ax_On p l R s m args meth c D cA b sb ph X E M d n0 nF nL) (hi : M.2.2.2.2.2 pc = some (.istore_n k, len)) (h : ax_ins ph X E M (.istore_n k) pc ls st σ K Rt) (hsz : arr.size = nL) (hl : ax_lh b sb arr ls) (hw : ax_wd D cA b ph σ H) (hS : va_S (ax_A b) s.heap H locs) (hn0 : n0 ≤ σ.1) (hF : σ.1 ≤ nF) (hKF : ∀ pc ls st σ', K pc ls st σ' → σ'.1 ≤ nF) (hK : ax_Nx p l e R s m args below meth c Q D cA b sb ph n0 nL σ K) : ax_at p l e R s m args below meth c Q b sb n0 H locs pc arr st σ := by
  obtain ⟨hT, hMO, ⟨hx, hb, hml, hown, hts⟩, hKn, hnm, hX, hE, hEm, hfr, hlo, hRc, hRs⟩ := hO
  have hdec := ax_dec hMO hi (Nat.succ_ne_zero _)
  dsimp only [ax_ins] at h
  split at h
  · obtain ⟨h1, h⟩ := ax_bif h
    exact lv_istore_n hx hb hdec rfl hl.has (ax_blt h1) rfl (fun ls' hl' => hK _ _ _ _ _ _ _ h (Nat.le_refl _) hw hS (ax_lh_1 (ax_blt h1) hl') (hl'.1.trans (hl.1.symm.trans hsz)))
  · exact h.elim
theorem ax_s_istore {k : Nat} (hO : ax_On p l R s m args meth c D cA b sb ph X E M d n0 nF nL) (hi : M.2.2.2.2.2 pc = some (.istore k, len)) (h : ax_ins ph X E M (.istore k) pc ls st σ K Rt) (hsz : arr.size = nL) (hl : ax_lh b sb arr ls) (hw : ax_wd D cA b ph σ H) (hS : va_S (ax_A b) s.heap H locs) (hn0 : n0 ≤ σ.1) (hF : σ.1 ≤ nF) (hKF : ∀ pc ls st σ', K pc ls st σ' → σ'.1 ≤ nF) (hK : ax_Nx p l e R s m args below meth c Q D cA b sb ph n0 nL σ K) : ax_at p l e R s m args below meth c Q b sb n0 H locs pc arr st σ := by
  obtain ⟨hT, hMO, ⟨hx, hb, hml, hown, hts⟩, hKn, hnm, hX, hE, hEm, hfr, hlo, hRc, hRs⟩ := hO
  have hdec := ax_dec hMO hi (Nat.succ_ne_zero _)
  dsimp only [ax_ins] at h
  split at h
  · obtain ⟨h1, h⟩ := ax_bif h
    exact lv_istore hx hb hdec hl.has (ax_blt h1) rfl (fun ls' hl' => hK _ _ _ _ _ _ _ h (Nat.le_refl _) hw hS (ax_lh_1 (ax_blt h1) hl') (hl'.1.trans (hl.1.symm.trans hsz)))
  · exact h.elim
theorem ax_s_astore_n {k : Fin 4} (hO : ax_On p l R s m args meth c D cA b sb ph X E M d n0 nF nL) (hi : M.2.2.2.2.2 pc = some (.astore_n k, len)) (h : ax_ins ph X E M (.astore_n k) pc ls st σ K Rt) (hsz : arr.size = nL) (hl : ax_lh b sb arr ls) (hw : ax_wd D cA b ph σ H) (hS : va_S (ax_A b) s.heap H locs) (hn0 : n0 ≤ σ.1) (hF : σ.1 ≤ nF) (hKF : ∀ pc ls st σ', K pc ls st σ' → σ'.1 ≤ nF) (hK : ax_Nx p l e R s m args below meth c Q D cA b sb ph n0 nL σ K) : ax_at p l e R s m args below meth c Q b sb n0 H locs pc arr st σ := by
  obtain ⟨hT, hMO, ⟨hx, hb, hml, hown, hts⟩, hKn, hnm, hX, hE, hEm, hfr, hlo, hRc, hRs⟩ := hO
  have hdec := ax_dec hMO hi (Nat.succ_ne_zero _)
  dsimp only [ax_ins] at h
  split at h
  · obtain ⟨h1, h⟩ := ax_bif h
    exact lv_astore_n hx hb hdec rfl hl.has (ax_blt h1) rfl (fun ls' hl' => hK _ _ _ _ _ _ _ h (Nat.le_refl _) hw hS (ax_lh_1 (ax_blt h1) hl') (hl'.1.trans (hl.1.symm.trans hsz)))
  · exact h.elim
theorem ax_s_astore {k : Nat} (hO : ax_On p l R s m args meth c D cA b sb ph X E M d n0 nF nL) (hi : M.2.2.2.2.2 pc = some (.astore k, len)) (h : ax_ins ph X E M (.astore k) pc ls st σ K Rt) (hsz : arr.size = nL) (hl : ax_lh b sb arr ls) (hw : ax_wd D cA b ph σ H) (hS : va_S (ax_A b) s.heap H locs) (hn0 : n0 ≤ σ.1) (hF : σ.1 ≤ nF) (hKF : ∀ pc ls st σ', K pc ls st σ' → σ'.1 ≤ nF) (hK : ax_Nx p l e R s m args below meth c Q D cA b sb ph n0 nL σ K) : ax_at p l e R s m args below meth c Q b sb n0 H locs pc arr st σ := by
  obtain ⟨hT, hMO, ⟨hx, hb, hml, hown, hts⟩, hKn, hnm, hX, hE, hEm, hfr, hlo, hRc, hRs⟩ := hO
  have hdec := ax_dec hMO hi (Nat.succ_ne_zero _)
  dsimp only [ax_ins] at h
  split at h
  · obtain ⟨h1, h⟩ := ax_bif h
    exact lv_astore hx hb hdec hl.has (ax_blt h1) rfl (fun ls' hl' => hK _ _ _ _ _ _ _ h (Nat.le_refl _) hw hS (ax_lh_1 (ax_blt h1) hl') (hl'.1.trans (hl.1.symm.trans hsz)))
  · exact h.elim
theorem ax_s_lstore {k : Nat} (hO : ax_On p l R s m args meth c D cA b sb ph X E M d n0 nF nL) (hi : M.2.2.2.2.2 pc = some (.lstore k, len)) (h : ax_ins ph X E M (.lstore k) pc ls st σ K Rt) (hsz : arr.size = nL) (hl : ax_lh b sb arr ls) (hw : ax_wd D cA b ph σ H) (hS : va_S (ax_A b) s.heap H locs) (hn0 : n0 ≤ σ.1) (hF : σ.1 ≤ nF) (hKF : ∀ pc ls st σ', K pc ls st σ' → σ'.1 ≤ nF) (hK : ax_Nx p l e R s m args below meth c Q D cA b sb ph n0 nL σ K) : ax_at p l e R s m args below meth c Q b sb n0 H locs pc arr st σ := by
  obtain ⟨hT, hMO, ⟨hx, hb, hml, hown, hts⟩, hKn, hnm, hX, hE, hEm, hfr, hlo, hRc, hRs⟩ := hO
  have hdec := ax_dec hMO hi (Nat.succ_ne_zero _)
  dsimp only [ax_ins] at h
  split at h
  · obtain ⟨h1, h⟩ := ax_bif h
    exact lv_lstore hx hb hdec hl.has (ax_blt h1) rfl (fun ls' hl' => hK _ _ _ _ _ _ _ h (Nat.le_refl _) hw hS (ax_lh_2 (ax_blt h1) hl') (hl'.1.trans (hl.1.symm.trans hsz)))
  · exact h.elim
theorem ax_s_iinc {k : Nat} {n : Int} (hO : ax_On p l R s m args meth c D cA b sb ph X E M d n0 nF nL) (hi : M.2.2.2.2.2 pc = some (.iinc k n, len)) (h : ax_ins ph X E M (.iinc k n) pc ls st σ K Rt) (hsz : arr.size = nL) (hl : ax_lh b sb arr ls) (hw : ax_wd D cA b ph σ H) (hS : va_S (ax_A b) s.heap H locs) (hn0 : n0 ≤ σ.1) (hF : σ.1 ≤ nF) (hKF : ∀ pc ls st σ', K pc ls st σ' → σ'.1 ≤ nF) (hK : ax_Nx p l e R s m args below meth c Q D cA b sb ph n0 nL σ K) : ax_at p l e R s m args below meth c Q b sb n0 H locs pc arr st σ := by
  obtain ⟨hT, hMO, ⟨hx, hb, hml, hown, hts⟩, hKn, hnm, hX, hE, hEm, hfr, hlo, hRc, hRs⟩ := hO
  have hdec := ax_dec hMO hi (Nat.succ_ne_zero _)
  dsimp only [ax_ins] at h
  split at h
  · rename_i v hv
    obtain ⟨j, hj⟩ := List.getElem?_of_mem (ax_al_in (b := b) (sb := sb) (ax_getD hv))
    exact lv_iinc hx hb hdec hl.has hj rfl (List.getElem?_eq_some_iff.mp (ax_getD hv)).1 rfl (fun ls' hl' => hK _ _ _ _ _ _ _ h (Nat.le_refl _) hw hS (ax_lh_1 (List.getElem?_eq_some_iff.mp (ax_getD hv)).1 hl') (hl'.1.trans (hl.1.symm.trans hsz)))
  · exact h.elim
theorem ax_s_iadd (hO : ax_On p l R s m args meth c D cA b sb ph X E M d n0 nF nL) (hi : M.2.2.2.2.2 pc = some (.iadd, len)) (h : ax_ins ph X E M (.iadd) pc ls st σ K Rt) (hsz : arr.size = nL) (hl : ax_lh b sb arr ls) (hw : ax_wd D cA b ph σ H) (hS : va_S (ax_A b) s.heap H locs) (hn0 : n0 ≤ σ.1) (hF : σ.1 ≤ nF) (hKF : ∀ pc ls st σ', K pc ls st σ' → σ'.1 ≤ nF) (hK : ax_Nx p l e R s m args below meth c Q D cA b sb ph n0 nL σ K) : ax_at p l e R s m args below meth c Q b sb n0 H locs pc arr st σ := by
  obtain ⟨hT, hMO, ⟨hx, hb, hml, hown, hts⟩, hKn, hnm, hX, hE, hEm, hfr, hlo, hRc, hRs⟩ := hO
  have hdec := ax_dec hMO hi (Nat.succ_ne_zero _)
  dsimp only [ax_ins] at h
  split at h
  · exact lv_iadd hx hb hdec (hK _ _ _ _ _ _ _ h (Nat.le_refl _) hw hS hl hsz)
  · exact h.elim
theorem ax_s_isub (hO : ax_On p l R s m args meth c D cA b sb ph X E M d n0 nF nL) (hi : M.2.2.2.2.2 pc = some (.isub, len)) (h : ax_ins ph X E M (.isub) pc ls st σ K Rt) (hsz : arr.size = nL) (hl : ax_lh b sb arr ls) (hw : ax_wd D cA b ph σ H) (hS : va_S (ax_A b) s.heap H locs) (hn0 : n0 ≤ σ.1) (hF : σ.1 ≤ nF) (hKF : ∀ pc ls st σ', K pc ls st σ' → σ'.1 ≤ nF) (hK : ax_Nx p l e R s m args below meth c Q D cA b sb ph n0 nL σ K) : ax_at p l e R s m args below meth c Q b sb n0 H locs pc arr st σ := by
  obtain ⟨hT, hMO, ⟨hx, hb, hml, hown, hts⟩, hKn, hnm, hX, hE, hEm, hfr, hlo, hRc, hRs⟩ := hO
  have hdec := ax_dec hMO hi (Nat.succ_ne_zero _)
  dsimp only [ax_ins] at h
  split at h
  · exact lv_isub hx hb hdec (hK _ _ _ _ _ _ _ h (Nat.le_refl _) hw hS hl hsz)
  · exact h.elim
theorem ax_s_imul (hO : ax_On p l R s m args meth c D cA b sb ph X E M d n0 nF nL) (hi : M.2.2.2.2.2 pc = some (.imul, len)) (h : ax_ins ph X E M (.imul) pc ls st σ K Rt) (hsz : arr.size = nL) (hl : ax_lh b sb arr ls) (hw : ax_wd D cA b ph σ H) (hS : va_S (ax_A b) s.heap H locs) (hn0 : n0 ≤ σ.1) (hF : σ.1 ≤ nF) (hKF : ∀ pc ls st σ', K pc ls st σ' → σ'.1 ≤ nF) (hK : ax_Nx p l e R s m args below meth c Q D cA b sb ph n0 nL σ K) : ax_at p l e R s m args below meth c Q b sb n0 H locs pc arr st σ := by
  obtain ⟨hT, hMO, ⟨hx, hb, hml, hown, hts⟩, hKn, hnm, hX, hE, hEm, hfr, hlo, hRc, hRs⟩ := hO
  have hdec := ax_dec hMO hi (Nat.succ_ne_zero _)
  dsimp only [ax_ins] at h
  split at h
  · exact lv_imul hx hb hdec (hK _ _ _ _ _ _ _ h (Nat.le_refl _) hw hS hl hsz)
  · exact h.elim
theorem ax_s_iand (hO : ax_On p l R s m args meth c D cA b sb ph X E M d n0 nF nL) (hi : M.2.2.2.2.2 pc = some (.iand, len)) (h : ax_ins ph X E M (.iand) pc ls st σ K Rt) (hsz : arr.size = nL) (hl : ax_lh b sb arr ls) (hw : ax_wd D cA b ph σ H) (hS : va_S (ax_A b) s.heap H locs) (hn0 : n0 ≤ σ.1) (hF : σ.1 ≤ nF) (hKF : ∀ pc ls st σ', K pc ls st σ' → σ'.1 ≤ nF) (hK : ax_Nx p l e R s m args below meth c Q D cA b sb ph n0 nL σ K) : ax_at p l e R s m args below meth c Q b sb n0 H locs pc arr st σ := by
  obtain ⟨hT, hMO, ⟨hx, hb, hml, hown, hts⟩, hKn, hnm, hX, hE, hEm, hfr, hlo, hRc, hRs⟩ := hO
  have hdec := ax_dec hMO hi (Nat.succ_ne_zero _)
  dsimp only [ax_ins] at h
  split at h
  · exact lv_iand hx hb hdec (hK _ _ _ _ _ _ _ h (Nat.le_refl _) hw hS hl hsz)
  · exact h.elim
theorem ax_s_ior (hO : ax_On p l R s m args meth c D cA b sb ph X E M d n0 nF nL) (hi : M.2.2.2.2.2 pc = some (.ior, len)) (h : ax_ins ph X E M (.ior) pc ls st σ K Rt) (hsz : arr.size = nL) (hl : ax_lh b sb arr ls) (hw : ax_wd D cA b ph σ H) (hS : va_S (ax_A b) s.heap H locs) (hn0 : n0 ≤ σ.1) (hF : σ.1 ≤ nF) (hKF : ∀ pc ls st σ', K pc ls st σ' → σ'.1 ≤ nF) (hK : ax_Nx p l e R s m args below meth c Q D cA b sb ph n0 nL σ K) : ax_at p l e R s m args below meth c Q b sb n0 H locs pc arr st σ := by
  obtain ⟨hT, hMO, ⟨hx, hb, hml, hown, hts⟩, hKn, hnm, hX, hE, hEm, hfr, hlo, hRc, hRs⟩ := hO
  have hdec := ax_dec hMO hi (Nat.succ_ne_zero _)
  dsimp only [ax_ins] at h
  split at h
  · exact lv_ior hx hb hdec (hK _ _ _ _ _ _ _ h (Nat.le_refl _) hw hS hl hsz)
  · exact h.elim
theorem ax_s_ixor (hO : ax_On p l R s m args meth c D cA b sb ph X E M d n0 nF nL) (hi : M.2.2.2.2.2 pc = some (.ixor, len)) (h : ax_ins ph X E M (.ixor) pc ls st σ K Rt) (hsz : arr.size = nL) (hl : ax_lh b sb arr ls) (hw : ax_wd D cA b ph σ H) (hS : va_S (ax_A b) s.heap H locs) (hn0 : n0 ≤ σ.1) (hF : σ.1 ≤ nF) (hKF : ∀ pc ls st σ', K pc ls st σ' → σ'.1 ≤ nF) (hK : ax_Nx p l e R s m args below meth c Q D cA b sb ph n0 nL σ K) : ax_at p l e R s m args below meth c Q b sb n0 H locs pc arr st σ := by
  obtain ⟨hT, hMO, ⟨hx, hb, hml, hown, hts⟩, hKn, hnm, hX, hE, hEm, hfr, hlo, hRc, hRs⟩ := hO
  have hdec := ax_dec hMO hi (Nat.succ_ne_zero _)
  dsimp only [ax_ins] at h
  split at h
  · exact lv_ixor hx hb hdec (hK _ _ _ _ _ _ _ h (Nat.le_refl _) hw hS hl hsz)
  · exact h.elim
theorem ax_s_ishl (hO : ax_On p l R s m args meth c D cA b sb ph X E M d n0 nF nL) (hi : M.2.2.2.2.2 pc = some (.ishl, len)) (h : ax_ins ph X E M (.ishl) pc ls st σ K Rt) (hsz : arr.size = nL) (hl : ax_lh b sb arr ls) (hw : ax_wd D cA b ph σ H) (hS : va_S (ax_A b) s.heap H locs) (hn0 : n0 ≤ σ.1) (hF : σ.1 ≤ nF) (hKF : ∀ pc ls st σ', K pc ls st σ' → σ'.1 ≤ nF) (hK : ax_Nx p l e R s m args below meth c Q D cA b sb ph n0 nL σ K) : ax_at p l e R s m args below meth c Q b sb n0 H locs pc arr st σ := by
  obtain ⟨hT, hMO, ⟨hx, hb, hml, hown, hts⟩, hKn, hnm, hX, hE, hEm, hfr, hlo, hRc, hRs⟩ := hO
  have hdec := ax_dec hMO hi (Nat.succ_ne_zero _)
  dsimp only [ax_ins] at h
  split at h
  · exact lv_ishl hx hb hdec (hK _ _ _ _ _ _ _ h (Nat.le_refl _) hw hS hl hsz)
  · exact h.elim
theorem ax_s_ishr (hO : ax_On p l R s m args meth c D cA b sb ph X E M d n0 nF nL) (hi : M.2.2.2.2.2 pc = some (.ishr, len)) (h : ax_ins ph X E M (.ishr) pc ls st σ K Rt) (hsz : arr.size = nL) (hl : ax_lh b sb arr ls) (hw : ax_wd D cA b ph σ H) (hS : va_S (ax_A b) s.heap H locs) (hn0 : n0 ≤ σ.1) (hF : σ.1 ≤ nF) (hKF : ∀ pc ls st σ', K pc ls st σ' → σ'.1 ≤ nF) (hK : ax_Nx p l e R s m args below meth c Q D cA b sb ph n0 nL σ K) : ax_at p l e R s m args below meth c Q b sb n0 H locs pc arr st σ := by
  obtain ⟨hT, hMO, ⟨hx, hb, hml, hown, hts⟩, hKn, hnm, hX, hE, hEm, hfr, hlo, hRc, hRs⟩ := hO
  have hdec := ax_dec hMO hi (Nat.succ_ne_zero _)
  dsimp only [ax_ins] at h
  split at h
  · exact lv_ishr hx hb hdec (hK _ _ _ _ _ _ _ h (Nat.le_refl _) hw hS hl hsz)
  · exact h.elim
theorem ax_s_lsub (hO : ax_On p l R s m args meth c D cA b sb ph X E M d n0 nF nL) (hi : M.2.2.2.2.2 pc = some (.lsub, len)) (h : ax_ins ph X E M (.lsub) pc ls st σ K Rt) (hsz : arr.size = nL) (hl : ax_lh b sb arr ls) (hw : ax_wd D cA b ph σ H) (hS : va_S (ax_A b) s.heap H locs) (hn0 : n0 ≤ σ.1) (hF : σ.1 ≤ nF) (hKF : ∀ pc ls st σ', K pc ls st σ' → σ'.1 ≤ nF) (hK : ax_Nx p l e R s m args below meth c Q D cA b sb ph n0 nL σ K) : ax_at p l e R s m args below meth c Q b sb n0 H locs pc arr st σ := by
  obtain ⟨hT, hMO, ⟨hx, hb, hml, hown, hts⟩, hKn, hnm, hX, hE, hEm, hfr, hlo, hRc, hRs⟩ := hO
  have hdec := ax_dec hMO hi (Nat.succ_ne_zero _)
  dsimp only [ax_ins] at h
  split at h
  · exact lv_lsub hx hb hdec (hK _ _ _ _ _ _ _ h (Nat.le_refl _) hw hS hl hsz)
  · exact h.elim
theorem ax_s_ineg (hO : ax_On p l R s m args meth c D cA b sb ph X E M d n0 nF nL) (hi : M.2.2.2.2.2 pc = some (.ineg, len)) (h : ax_ins ph X E M (.ineg) pc ls st σ K Rt) (hsz : arr.size = nL) (hl : ax_lh b sb arr ls) (hw : ax_wd D cA b ph σ H) (hS : va_S (ax_A b) s.heap H locs) (hn0 : n0 ≤ σ.1) (hF : σ.1 ≤ nF) (hKF : ∀ pc ls st σ', K pc ls st σ' → σ'.1 ≤ nF) (hK : ax_Nx p l e R s m args below meth c Q D cA b sb ph n0 nL σ K) : ax_at p l e R s m args below meth c Q b sb n0 H locs pc arr st σ := by
  obtain ⟨hT, hMO, ⟨hx, hb, hml, hown, hts⟩, hKn, hnm, hX, hE, hEm, hfr, hlo, hRc, hRs⟩ := hO
  have hdec := ax_dec hMO hi (Nat.succ_ne_zero _)
  dsimp only [ax_ins] at h
  split at h
  · exact lv_ineg hx hb hdec (hK _ _ _ _ _ _ _ h (Nat.le_refl _) hw hS hl hsz)
  · exact h.elim
theorem ax_s_iushr (hO : ax_On p l R s m args meth c D cA b sb ph X E M d n0 nF nL) (hi : M.2.2.2.2.2 pc = some (.iushr, len)) (h : ax_ins ph X E M (.iushr) pc ls st σ K Rt) (hsz : arr.size = nL) (hl : ax_lh b sb arr ls) (hw : ax_wd D cA b ph σ H) (hS : va_S (ax_A b) s.heap H locs) (hn0 : n0 ≤ σ.1) (hF : σ.1 ≤ nF) (hKF : ∀ pc ls st σ', K pc ls st σ' → σ'.1 ≤ nF) (hK : ax_Nx p l e R s m args below meth c Q D cA b sb ph n0 nL σ K) : ax_at p l e R s m args below meth c Q b sb n0 H locs pc arr st σ := by
  obtain ⟨hT, hMO, ⟨hx, hb, hml, hown, hts⟩, hKn, hnm, hX, hE, hEm, hfr, hlo, hRc, hRs⟩ := hO
  have hdec := ax_dec hMO hi (Nat.succ_ne_zero _)
  dsimp only [ax_ins] at h
  split at h
  · exact lv_iushr hx hb hdec rfl (hK _ _ _ _ _ _ _ h (Nat.le_refl _) hw hS hl hsz)
  · exact h.elim
theorem ax_s_i2l (hO : ax_On p l R s m args meth c D cA b sb ph X E M d n0 nF nL) (hi : M.2.2.2.2.2 pc = some (.i2l, len)) (h : ax_ins ph X E M (.i2l) pc ls st σ K Rt) (hsz : arr.size = nL) (hl : ax_lh b sb arr ls) (hw : ax_wd D cA b ph σ H) (hS : va_S (ax_A b) s.heap H locs) (hn0 : n0 ≤ σ.1) (hF : σ.1 ≤ nF) (hKF : ∀ pc ls st σ', K pc ls st σ' → σ'.1 ≤ nF) (hK : ax_Nx p l e R s m args below meth c Q D cA b sb ph n0 nL σ K) : ax_at p l e R s m args below meth c Q b sb n0 H locs pc arr st σ := by
  obtain ⟨hT, hMO, ⟨hx, hb, hml, hown, hts⟩, hKn, hnm, hX, hE, hEm, hfr, hlo, hRc, hRs⟩ := hO
  have hdec := ax_dec hMO hi (Nat.succ_ne_zero _)
  dsimp only [ax_ins] at h
  split at h
  · exact lv_i2l hx hb hdec rfl (hK _ _ _ _ _ _ _ h (Nat.le_refl _) hw hS hl hsz)
  · exact h.elim
theorem ax_s_l2i (hO : ax_On p l R s m args meth c D cA b sb ph X E M d n0 nF nL) (hi : M.2.2.2.2.2 pc = some (.l2i, len)) (h : ax_ins ph X E M (.l2i) pc ls st σ K Rt) (hsz : arr.size = nL) (hl : ax_lh b sb arr ls) (hw : ax_wd D cA b ph σ H) (hS : va_S (ax_A b) s.heap H locs) (hn0 : n0 ≤ σ.1) (hF : σ.1 ≤ nF) (hKF : ∀ pc ls st σ', K pc ls st σ' → σ'.1 ≤ nF) (hK : ax_Nx p l e R s m args below meth c Q D cA b sb ph n0 nL σ K) : ax_at p l e R s m args below meth c Q b sb n0 H locs pc arr st σ := by
  obtain ⟨hT, hMO, ⟨hx, hb, hml, hown, hts⟩, hKn, hnm, hX, hE, hEm, hfr, hlo, hRc, hRs⟩ := hO
  have hdec := ax_dec hMO hi (Nat.succ_ne_zero _)
  dsimp only [ax_ins] at h
  split at h
  · exact lv_l2i hx hb hdec rfl (hK _ _ _ _ _ _ _ h (Nat.le_refl _) hw hS hl hsz)
  · exact h.elim
theorem ax_s_i2b (hO : ax_On p l R s m args meth c D cA b sb ph X E M d n0 nF nL) (hi : M.2.2.2.2.2 pc = some (.i2b, len)) (h : ax_ins ph X E M (.i2b) pc ls st σ K Rt) (hsz : arr.size = nL) (hl : ax_lh b sb arr ls) (hw : ax_wd D cA b ph σ H) (hS : va_S (ax_A b) s.heap H locs) (hn0 : n0 ≤ σ.1) (hF : σ.1 ≤ nF) (hKF : ∀ pc ls st σ', K pc ls st σ' → σ'.1 ≤ nF) (hK : ax_Nx p l e R s m args below meth c Q D cA b sb ph n0 nL σ K) : ax_at p l e R s m args below meth c Q b sb n0 H locs pc arr st σ := by
  obtain ⟨hT, hMO, ⟨hx, hb, hml, hown, hts⟩, hKn, hnm, hX, hE, hEm, hfr, hlo, hRc, hRs⟩ := hO
  have hdec := ax_dec hMO hi (Nat.succ_ne_zero _)
  dsimp only [ax_ins] at h
  split at h
  · exact lv_i2b hx hb hdec rfl (hK _ _ _ _ _ _ _ h (Nat.le_refl _) hw hS hl hsz)
  · exact h.elim
theorem ax_s_idiv (hO : ax_On p l R s m args meth c D cA b sb ph X E M d n0 nF nL) (hi : M.2.2.2.2.2 pc = some (.idiv, len)) (h : ax_ins ph X E M (.idiv) pc ls st σ K Rt) (hsz : arr.size = nL) (hl : ax_lh b sb arr ls) (hw : ax_wd D cA b ph σ H) (hS : va_S (ax_A b) s.heap H locs) (hn0 : n0 ≤ σ.1) (hF : σ.1 ≤ nF) (hKF : ∀ pc ls st σ', K pc ls st σ' → σ'.1 ≤ nF) (hK : ax_Nx p l e R s m args below meth c Q D cA b sb ph n0 nL σ K) : ax_at p l e R s m args below meth c Q b sb n0 H locs pc arr st σ := by
  obtain ⟨hT, hMO, ⟨hx, hb, hml, hown, hts⟩, hKn, hnm, hX, hE, hEm, hfr, hlo, hRc, hRs⟩ := hO
  have hdec := ax_dec hMO hi (Nat.succ_ne_zero _)
  dsimp only [ax_ins] at h
  split at h
  · obtain ⟨h1, h⟩ := h
    exact lv_idiv hx hb hdec h1 (hK _ _ _ _ _ _ _ h (Nat.le_refl _) hw hS hl hsz)
  · exact h.elim
theorem ax_s_irem (hO : ax_On p l R s m args meth c D cA b sb ph X E M d n0 nF nL) (hi : M.2.2.2.2.2 pc = some (.irem, len)) (h : ax_ins ph X E M (.irem) pc ls st σ K Rt) (hsz : arr.size = nL) (hl : ax_lh b sb arr ls) (hw : ax_wd D cA b ph σ H) (hS : va_S (ax_A b) s.heap H locs) (hn0 : n0 ≤ σ.1) (hF : σ.1 ≤ nF) (hKF : ∀ pc ls st σ', K pc ls st σ' → σ'.1 ≤ nF) (hK : ax_Nx p l e R s m args below meth c Q D cA b sb ph n0 nL σ K) : ax_at p l e R s m args below meth c Q b sb n0 H locs pc arr st σ := by
  obtain ⟨hT, hMO, ⟨hx, hb, hml, hown, hts⟩, hKn, hnm, hX, hE, hEm, hfr, hlo, hRc, hRs⟩ := hO
  have hdec := ax_dec hMO hi (Nat.succ_ne_zero _)
  dsimp only [ax_ins] at h
  split at h
  · obtain ⟨h1, h⟩ := h
    exact lv_irem hx hb hdec h1 (hK _ _ _ _ _ _ _ h (Nat.le_refl _) hw hS hl hsz)
  · exact h.elim
theorem ax_s_lcmp (hO : ax_On p l R s m args meth c D cA b sb ph X E M d n0 nF nL) (hi : M.2.2.2.2.2 pc = some (.lcmp, len)) (h : ax_ins ph X E M (.lcmp) pc ls st σ K Rt) (hsz : arr.size = nL) (hl : ax_lh b sb arr ls) (hw : ax_wd D cA b ph σ H) (hS : va_S (ax_A b) s.heap H locs) (hn0 : n0 ≤ σ.1) (hF : σ.1 ≤ nF) (hKF : ∀ pc ls st σ', K pc ls st σ' → σ'.1 ≤ nF) (hK : ax_Nx p l e R s m args below meth c Q D cA b sb ph n0 nL σ K) : ax_at p l e R s m args below meth c Q b sb n0 H locs pc arr st σ := by
  obtain ⟨hT, hMO, ⟨hx, hb, hml, hown, hts⟩, hKn, hnm, hX, hE, hEm, hfr, hlo, hRc, hRs⟩ := hO
  have hdec := ax_dec hMO hi (Nat.succ_ne_zero _)
  dsimp only [ax_ins] at h
  split at h
  · exact W.lcmp hx hb hdec (hK _ _ _ _ _ _ _ h (Nat.le_refl _) hw hS hl hsz)
  · exact h.elim
theorem ax_s_dup (hO : ax_On p l R s m args meth c D cA b sb ph X E M d n0 nF nL) (hi : M.2.2.2.2.2 pc = some (.dup, len)) (h : ax_ins ph X E M (.dup) pc ls st σ K Rt) (hsz : arr.size = nL) (hl : ax_lh b sb arr ls) (hw : ax_wd D cA b ph σ H) (hS : va_S (ax_A b) s.heap H locs) (hn0 : n0 ≤ σ.1) (hF : σ.1 ≤ nF) (hKF : ∀ pc ls st σ', K pc ls st σ' → σ'.1 ≤ nF) (hK : ax_Nx p l e R s m args below meth c Q D cA b sb ph n0 nL σ K) : ax_at p l e R s m args below meth c Q b sb n0 H locs pc arr st σ := by
  obtain ⟨hT, hMO, ⟨hx, hb, hml, hown, hts⟩, hKn, hnm, hX, hE, hEm, hfr, hlo, hRc, hRs⟩ := hO
  have hdec := ax_dec hMO hi (Nat.succ_ne_zero _)
  dsimp only [ax_ins] at h
  split at h
  · exact lv_dup hx hb hdec rfl (hK _ _ _ _ _ _ _ h (Nat.le_refl _) hw hS hl hsz)
  · exact lv_dup hx hb hdec rfl (hK _ _ _ _ _ _ _ h (Nat.le_refl _) hw hS hl hsz)
  · exact h.elim
theorem ax_s_dup2 (hO : ax_On p l R s m args meth c D cA b sb ph X E M d n0 nF nL) (hi : M.2.2.2.2.2 pc = some (.dup2, len)) (h : ax_ins ph X E M (.dup2) pc ls st σ K Rt) (hsz : arr.size = nL) (hl : ax_lh b sb arr ls) (hw : ax_wd D cA b ph σ H) (hS : va_S (ax_A b) s.heap H locs) (hn0 : n0 ≤ σ.1) (hF : σ.1 ≤ nF) (hKF : ∀ pc ls st σ', K pc ls st σ' → σ'.1 ≤ nF) (hK : ax_Nx p l e R s m args below meth c Q D cA b sb ph n0 nL σ K) : ax_at p l e R s m args below meth c Q b sb n0 H locs pc arr st σ := by
  obtain ⟨hT, hMO, ⟨hx, hb, hml, hown, hts⟩, hKn, hnm, hX, hE, hEm, hfr, hlo, hRc, hRs⟩ := hO
  have hdec := ax_dec hMO hi (Nat.succ_ne_zero _)
  dsimp only [ax_ins] at h
  split at h
  · exact lv_dup2_11 hx hb hdec rfl rfl (hK _ _ _ _ _ _ _ h (Nat.le_refl _) hw hS hl hsz)
  · exact h.elim
theorem ax_s_pop (hO : ax_On p l R s m args meth c D cA b sb ph X E M d n0 nF nL) (hi : M.2.2.2.2.2 pc = some (.pop, len)) (h : ax_ins ph X E M (.pop) pc ls st σ K Rt) (hsz : arr.size = nL) (hl : ax_lh b sb arr ls) (hw : ax_wd D cA b ph σ H) (hS : va_S (ax_A b) s.heap H locs) (hn0 : n0 ≤ σ.1) (hF : σ.1 ≤ nF) (hKF : ∀ pc ls st σ', K pc ls st σ' → σ'.1 ≤ nF) (hK : ax_Nx p l e R s m args below meth c Q D cA b sb ph n0 nL σ K) : ax_at p l e R s m args below meth c Q b sb n0 H locs pc arr st σ := by
  obtain ⟨hT, hMO, ⟨hx, hb, hml, hown, hts⟩, hKn, hnm, hX, hE, hEm, hfr, hlo, hRc, hRs⟩ := hO
  have hdec := ax_dec hMO hi (Nat.succ_ne_zero _)
  dsimp only [ax_ins] at h
  split at h
  · exact lv_pop hx hb hdec rfl (hK _ _ _ _ _ _ _ h (Nat.le_refl _) hw hS hl hsz)
  · exact h.elim
theorem ax_s_goto {off : Int} (hO : ax_On p l R s m args meth c D cA b sb ph X E M d n0 nF nL) (hi : M.2.2.2.2.2 pc = some (.goto off, len)) (h : ax_ins ph X E M (.goto off) pc ls st σ K Rt) (hsz : arr.size = nL) (hl : ax_lh b sb arr ls) (hw : ax_wd D cA b ph σ H) (hS : va_S (ax_A b) s.heap H locs) (hn0 : n0 ≤ σ.1) (hF : σ.1 ≤ nF) (hKF : ∀ pc ls st σ', K pc ls st σ' → σ'.1 ≤ nF) (hK : ax_Nx p l e R s m args below meth c Q D cA b sb ph n0 nL σ K) : ax_at p l e R s m args below meth c Q b sb n0 H locs pc arr st σ := by
  obtain ⟨hT, hMO, ⟨hx, hb, hml, hown, hts⟩, hKn, hnm, hX, hE, hEm, hfr, hlo, hRc, hRs⟩ := hO
  have hdec := ax_dec hMO hi (Nat.succ_ne_zero _)
  dsimp only [ax_ins] at h
  obtain ⟨t, ht, h⟩ := ax_jp_spec h
  exact lv_goto hx hb hdec ht (hK _ _ _ _ _ _ _ h (Nat.le_refl _) hw hS hl hsz)
theorem ax_s_ifCond {c0 : Jvm.ClassFile.Cond} {off : Int} (hO : ax_On p l R s m args meth c D cA b sb ph X E M d n0 nF nL) (hi : M.2.2.2.2.2 pc = some (.ifCond c0 off, len)) (h : ax_ins ph X E M (.ifCond c0 off) pc ls st σ K Rt) (hsz : arr.size = nL) (hl : ax_lh b sb arr ls) (hw : ax_wd D cA b ph σ H) (hS : va_S (ax_A b) s.heap H locs) (hn0 : n0 ≤ σ.1) (hF : σ.1 ≤ nF) (hKF : ∀ pc ls st σ', K pc ls st σ' → σ'.1 ≤ nF) (hK : ax_Nx p l e R s m args below meth c Q D cA b sb ph n0 nL σ K) : ax_at p l e R s m args below meth c Q b sb n0 H locs pc arr st σ := by
  obtain ⟨hT, hMO, ⟨hx, hb, hml, hown, hts⟩, hKn, hnm, hX, hE, hEm, hfr, hlo, hRc, hRs⟩ := hO
  have hdec := ax_dec hMO hi (Nat.succ_ne_zero _)
  dsimp only [ax_ins] at h
  have hpos : (0 : Int) ≤ (pc : Int) + off := by
    have h2 := (hMO.1 pc _ len hi).2
    unfold ax_iok at h2
    simp only [Bool.and_eq_true, decide_eq_true_eq] at h2
    exact h2.2
  obtain ⟨t, ht⟩ : ∃ t : Nat, (pc : Int) + off = (t : Int) := ⟨((pc : Int) + off).toNat, by omega⟩
  have jp : ∀ {P : Nat → Prop}, ax_jp pc off P → P t := by
    intro P hP
    obtain ⟨t', ht', hP⟩ := ax_jp_spec hP
    rw [show t = t' by omega]
    exact hP
  split at h
  · obtain ⟨h1, h2⟩ := h
    cases c0
    · exact lv_if_eq hx hb hdec ht (fun q => hK _ _ _ _ _ _ _ (jp (h1 q)) (Nat.le_refl _) hw hS hl hsz) (fun q => hK _ _ _ _ _ _ _ (h2 q) (Nat.le_refl _) hw hS hl hsz)
    · exact lv_if_ne hx hb hdec ht (fun q => hK _ _ _ _ _ _ _ (jp (h1 q)) (Nat.le_refl _) hw hS hl hsz) (fun q => hK _ _ _ _ _ _ _ (h2 (fun z => z q)) (Nat.le_refl _) hw hS hl hsz)
    · exact lv_if_lt hx hb hdec ht (fun q => hK _ _ _ _ _ _ _ (jp (h1 q)) (Nat.le_refl _) hw hS hl hsz) (fun q => hK _ _ _ _ _ _ _ (h2 q) (Nat.le_refl _) hw hS hl hsz)
    · exact lv_if_ge hx hb hdec ht (fun q => hK _ _ _ _ _ _ _ (jp (h1 q)) (Nat.le_refl _) hw hS hl hsz) (fun q => hK _ _ _ _ _ _ _ (h2 q) (Nat.le_refl _) hw hS hl hsz)
    · exact lv_if_gt hx hb hdec ht (fun q => hK _ _ _ _ _ _ _ (jp (h1 q)) (Nat.le_refl _) hw hS hl hsz) (fun q => hK _ _ _ _ _ _ _ (h2 q) (Nat.le_refl _) hw hS hl hsz)
    · exact lv_if_le hx hb hdec ht (fun q => hK _ _ _ _ _ _ _ (jp (h1 q)) (Nat.le_refl _) hw hS hl hsz) (fun q => hK _ _ _ _ _ _ _ (h2 q) (Nat.le_refl _) hw hS hl hsz)
  · exact h.elim
theorem ax_s_if_icmp {c0 : Jvm.ClassFile.Cond} {off : Int} (hO : ax_On p l R s m args meth c D cA b sb ph X E M d n0 nF nL) (hi : M.2.2.2.2.2 pc = some (.if_icmp c0 off, len)) (h : ax_ins ph X E M (.if_icmp c0 off) pc ls st σ K Rt) (hsz : arr.size = nL) (hl : ax_lh b sb arr ls) (hw : ax_wd D cA b ph σ H) (hS : va_S (ax_A b) s.heap H locs) (hn0 : n0 ≤ σ.1) (hF : σ.1 ≤ nF) (hKF : ∀ pc ls st σ', K pc ls st σ' → σ'.1 ≤ nF) (hK : ax_Nx p l e R s m args below meth c Q D cA b sb ph n0 nL σ K) : ax_at p l e R s m args below meth c Q b sb n0 H locs pc arr st σ := by
  obtain ⟨hT, hMO, ⟨hx, hb, hml, hown, hts⟩, hKn, hnm, hX, hE, hEm, hfr, hlo, hRc, hRs⟩ := hO
  have hdec := ax_dec hMO hi (Nat.succ_ne_zero _)
  dsimp only [ax_ins] at h
  have hpos : (0 : Int) ≤ (pc : Int) + off := by
    have h2 := (hMO.1 pc _ len hi).2
    unfold ax_iok at h2
    simp only [Bool.and_eq_true, decide_eq_true_eq] at h2
    exact h2.2
  obtain ⟨t, ht⟩ : ∃ t : Nat, (pc : Int) + off = (t : Int) := ⟨((pc : Int) + off).toNat, by omega⟩
  have jp : ∀ {P : Nat → Prop}, ax_jp pc off P → P t := by
    intro P hP
    obtain ⟨t', ht', hP⟩ := ax_jp_spec hP
    rw [show t = t' by omega]
    exact hP
  split at h
  · obtain ⟨h1, h2⟩ := h
    cases c0
    · exact lv_icmp_eq hx hb hdec ht (fun q => hK _ _ _ _ _ _ _ (jp (h1 q)) (Nat.le_refl _) hw hS hl hsz) (fun q => hK _ _ _ _ _ _ _ (h2 q) (Nat.le_refl _) hw hS hl hsz)
    · exact lv_icmp_ne hx hb hdec ht (fun q => hK _ _ _ _ _ _ _ (jp (h1 q)) (Nat.le_refl _) hw hS hl hsz) (fun q => hK _ _ _ _ _ _ _ (h2 (fun z => z q)) (Nat.le_refl _) hw hS hl hsz)
    · exact lv_icmp_lt hx hb hdec ht (fun q => hK _ _ _ _ _ _ _ (jp (h1 q)) (Nat.le_refl _) hw hS hl hsz) (fun q => hK _ _ _ _ _ _ _ (h2 q) (Nat.le_refl _) hw hS hl hsz)
    · exact lv_icmp_ge hx hb hdec ht (fun q => hK _ _ _ _ _ _ _ (jp (h1 q)) (Nat.le_refl _) hw hS hl hsz) (fun q => hK _ _ _ _ _ _ _ (h2 q) (Nat.le_refl _) hw hS hl hsz)
    · exact lv_icmp_gt hx hb hdec ht (fun q => hK _ _ _ _ _ _ _ (jp (h1 q)) (Nat.le_refl _) hw hS hl hsz) (fun q => hK _ _ _ _ _ _ _ (h2 q) (Nat.le_refl _) hw hS hl hsz)
    · exact lv_icmp_le hx hb hdec ht (fun q => hK _ _ _ _ _ _ _ (jp (h1 q)) (Nat.le_refl _) hw hS hl hsz) (fun q => hK _ _ _ _ _ _ _ (h2 q) (Nat.le_refl _) hw hS hl hsz)
  · exact h.elim
theorem ax_s_tableswitch {dflt lo hg : Int} {offs : Array Int} (hO : ax_On p l R s m args meth c D cA b sb ph X E M d n0 nF nL) (hi : M.2.2.2.2.2 pc = some (.tableswitch dflt lo hg offs, len)) (h : ax_ins ph X E M (.tableswitch dflt lo hg offs) pc ls st σ K Rt) (hsz : arr.size = nL) (hl : ax_lh b sb arr ls) (hw : ax_wd D cA b ph σ H) (hS : va_S (ax_A b) s.heap H locs) (hn0 : n0 ≤ σ.1) (hF : σ.1 ≤ nF) (hKF : ∀ pc ls st σ', K pc ls st σ' → σ'.1 ≤ nF) (hK : ax_Nx p l e R s m args below meth c Q D cA b sb ph n0 nL σ K) : ax_at p l e R s m args below meth c Q b sb n0 H locs pc arr st σ := by
  obtain ⟨hT, hMO, ⟨hx, hb, hml, hown, hts⟩, hKn, hnm, hX, hE, hEm, hfr, hlo, hRc, hRs⟩ := hO
  obtain ⟨hdec, hok⟩ := hMO.1 pc _ len hi
  unfold ax_iok at hok
  simp only [Bool.and_eq_true, decide_eq_true_eq] at hok
  dsimp only [ax_ins] at h
  split at h
  · rename_i x r
    obtain ⟨h1, h2⟩ := h
    by_cases hq : x.toInt < lo ∨ hg < x.toInt
    · obtain ⟨t, ht, h⟩ := ax_jp_spec (h1 hq)
      exact lv_tableOut hx hb hdec hq ht (hK _ _ _ _ _ _ _ h (Nat.le_refl _) hw hS hl hsz)
    · have q1 : ¬ x.toInt < lo := fun z => hq (Or.inl z)
      have q2 : ¬ hg < x.toInt := fun z => hq (Or.inr z)
      have hj : (x.toInt - lo).toNat < (hg - lo + 1).toNat := by omega
      obtain ⟨t, ht, h⟩ := ax_jp_spec (h2 (x.toInt - lo).toNat hj (by omega))
      refine lv_tableIn hx hb hdec q1 q2 (off := offs.getD (x.toInt - lo).toNat 0) ?_ ht (hK _ _ _ _ _ _ _ h (Nat.le_refl _) hw hS hl hsz)
      rw [Array.getD_eq_getD_getElem?, Array.getElem?_eq_getElem (by rw [hok.2]; exact hj)]
      rfl
  · exact h.elim
theorem ax_s_lookupswitch {dflt : Int} {ps : Array (Int × Int)} (hO : ax_On p l R s m args meth c D cA b sb ph X E M d n0 nF nL) (hi : M.2.2.2.2.2 pc = some (.lookupswitch dflt ps, len)) (h : ax_ins ph X E M (.lookupswitch dflt ps) pc ls st σ K Rt) (hsz : arr.size = nL) (hl : ax_lh b sb arr ls) (hw : ax_wd D cA b ph σ H) (hS : va_S (ax_A b) s.heap H locs) (hn0 : n0 ≤ σ.1) (hF : σ.1 ≤ nF) (hKF : ∀ pc ls st σ', K pc ls st σ' → σ'.1 ≤ nF) (hK : ax_Nx p l e R s m args below meth c Q D cA b sb ph n0 nL σ K) : ax_at p l e R s m args below meth c Q b sb n0 H locs pc arr st σ := by
  obtain ⟨hT, hMO, ⟨hx, hb, hml, hown, hts⟩, hKn, hnm, hX, hE, hEm, hfr, hlo, hRc, hRs⟩ := hO
  obtain ⟨hdec, hok⟩ := hMO.1 pc _ len hi
  unfold ax_iok at hok
  simp only [Bool.and_eq_true] at hok
  dsimp only [ax_ins] at h
  split at h
  · rename_i x r
    obtain ⟨h1, h2⟩ := h
    rcases ax_look ps.toList dflt x.toInt with ⟨q, q1, q2, q3⟩ | ⟨q1, q3⟩
    · obtain ⟨t, ht, h⟩ := ax_jp_spec (h1 q q1 q2)
      exact lv_lookup hx hb hdec hok.2 q3 ht (hK _ _ _ _ _ _ _ h (Nat.le_refl _) hw hS hl hsz)
    · obtain ⟨t, ht, h⟩ := ax_jp_spec (h2 q1)
      exact lv_lookup hx hb hdec hok.2 q3 ht (hK _ _ _ _ _ _ _ h (Nat.le_refl _) hw hS hl hsz)
  · exact h.elim
end
