/-! A RUN of the pure machine is one of the machine's; a method's contract -/
theorem ax_bif2 {c : Bool} {P R : Prop} (h : bif c then P else R) : P ∨ R := by
  cases c
  · exact Or.inr h
  · exact Or.inl h
theorem ax_ins_mono {ph : Bool} {X : ax_X} {E : ax_E} {M : ax_M} {i : Instr} {pc : Nat} {ls : ax_L} {st : List Value} {σ : ax_S} {K : Nat → ax_L → List Value → ax_S → Prop} {Rt : Option Value → ax_S → Prop} (hEm : ∀ ν As σ o, E ν As σ o → σ.1 ≤ o.2.1) (h : ax_ins ph X E M i pc ls st σ K Rt) : (∃ pc' ls' st' σ', K pc' ls' st' σ' ∧ σ.1 ≤ σ'.1) ∨ ∃ v, Rt v σ := by
  have jp : ∀ {off : Int} {P : Nat → Prop}, ax_jp pc off P → ∃ t, P t := fun hq => by
    obtain ⟨t, -, h⟩ := ax_jp_spec hq
    exact ⟨t, h⟩
  cases i
  case goto =>
    obtain ⟨t, h⟩ := jp h
    exact Or.inl ⟨_, _, _, _, h, Nat.le_refl _⟩
  case ifCond c0 off =>
    dsimp only [ax_ins] at h
    split at h
    · rename_i x r
      by_cases hc : ax_cmp c0 x 0
      · obtain ⟨t, h⟩ := jp (h.1 hc)
        exact Or.inl ⟨_, _, _, _, h, Nat.le_refl _⟩
      · exact Or.inl ⟨_, _, _, _, h.2 hc, Nat.le_refl _⟩
    · exact h.elim
  case if_icmp c0 off =>
    dsimp only [ax_ins] at h
    split at h
    · rename_i y x r
      by_cases hc : ax_cmp c0 x y
      · obtain ⟨t, h⟩ := jp (h.1 hc)
        exact Or.inl ⟨_, _, _, _, h, Nat.le_refl _⟩
      · exact Or.inl ⟨_, _, _, _, h.2 hc, Nat.le_refl _⟩
    · exact h.elim
  case tableswitch dflt lo hg offs =>
    dsimp only [ax_ins] at h
    split at h
    · rename_i x r
      by_cases hc : x.toInt < lo ∨ hg < x.toInt
      · obtain ⟨t, h⟩ := jp (h.1 hc)
        exact Or.inl ⟨_, _, _, _, h, Nat.le_refl _⟩
      · obtain ⟨t, h⟩ := jp (h.2 (x.toInt - lo).toNat (by omega) (by omega))
        exact Or.inl ⟨_, _, _, _, h, Nat.le_refl _⟩
    · exact h.elim
  case lookupswitch dflt ps =>
    dsimp only [ax_ins] at h
    split at h
    · rename_i x r
      rcases ax_look ps.toList dflt x.toInt with ⟨q, q1, q2, -⟩ | ⟨q1, -⟩
      · obtain ⟨t, h⟩ := jp (h.1 q q1 q2)
        exact Or.inl ⟨_, _, _, _, h, Nat.le_refl _⟩
      · obtain ⟨t, h⟩ := jp (h.2 q1)
        exact Or.inl ⟨_, _, _, _, h, Nat.le_refl _⟩
    · exact h.elim
  case new =>
    dsimp only [ax_ins] at h
    split at h
    · split at h
      · exact Or.inl ⟨_, _, _, _, (ax_bif h).2, Nat.le_succ _⟩
      · exact h.elim
    · exact h.elim
  case newarray =>
    dsimp only [ax_ins] at h
    split at h
    · split at h
      · exact Or.inl ⟨_, _, _, _, (ax_bif h).2.2, Nat.le_succ _⟩
      · exact h.elim
    · exact h.elim
  case getfield =>
    dsimp only [ax_ins] at h
    repeat' split at h
    all_goals first
      | exact h.elim
      | exact Or.inl ⟨_, _, _, _, (ax_bif h).2, Nat.le_refl _⟩
      | (obtain ⟨-, h⟩ := ax_bif h
         cases ph with
         | true => exact Or.inl ⟨_, _, _, _, h, Nat.le_refl _⟩
         | false => exact Or.inl ⟨_, _, _, _, h.2, Nat.le_refl _⟩)
  case putfield =>
    dsimp only [ax_ins] at h
    repeat' split at h
    all_goals first
      | exact h.elim
      | exact Or.inl ⟨_, _, _, _, (ax_bif h).2, Nat.le_refl σ.1⟩
      | exact Or.inl ⟨_, _, _, _, (ax_bif h).2.2, Nat.le_refl σ.1⟩
      | exact (ax_bif h).2.elim
  case invokestatic =>
    dsimp only [ax_ins] at h
    repeat' split at h
    all_goals first
      | exact h.elim
      | exact Or.inl ⟨_, _, _, _, (ax_bif h).2.2.2.2.2.2, Nat.le_refl σ.1⟩
      | (rcases ax_bif2 h with h | h
         all_goals first
           | exact h.elim
           | exact Or.inl ⟨_, _, _, _, (ax_bif h).2, Nat.le_refl σ.1⟩
           | (obtain ⟨-, o, h1, h2⟩ := ax_bif h
              exact Or.inl ⟨_, _, _, _, h2, hEm _ _ _ _ h1⟩))
  all_goals first
    | exact (show False from h).elim
    | (dsimp only [ax_ins] at h
       (repeat' split at h)
       all_goals first
         | exact h.elim
         | exact Or.inl ⟨_, _, _, _, h, Nat.le_refl σ.1⟩
         | exact Or.inl ⟨_, _, _, _, h.2, Nat.le_refl σ.1⟩
         | exact Or.inl ⟨_, _, _, _, (ax_bif h).2, Nat.le_refl σ.1⟩
         | exact Or.inl ⟨_, _, _, _, (ax_bif h).2.2, Nat.le_refl σ.1⟩
         | exact Or.inl ⟨_, _, _, _, (ax_bif h).2.2.2.2.2.2, Nat.le_refl σ.1⟩
         | exact Or.inr ⟨_, h⟩
         | exact Or.inr ⟨_, h.2⟩
         | (obtain ⟨-, o, h1, h2⟩ := ax_bif h
            exact Or.inl ⟨_, _, _, _, h2, hEm _ _ _ _ h1⟩))
theorem ax_run_mono {ph : Bool} {X : ax_X} {E : ax_E} {M : ax_M} (hEm : ∀ ν As σ o, E ν As σ o → σ.1 ≤ o.2.1) : ∀ (n pc : Nat) (ls : ax_L) (st : List Value) (σ : ax_S) (o : ax_O), ax_run ph X E M n pc ls st σ o → σ.1 ≤ o.2.1 := by
  intro n
  induction n with
  | zero => intro pc ls st σ o h; exact h.elim
  | succ n ih =>
    intro pc ls st σ o h
    unfold ax_run at h
    split at h
    · rcases ax_ins_mono hEm h with ⟨pc', ls', st', σ', h1, h2⟩ | ⟨v, h1⟩
      · exact Nat.le_trans h2 (ih _ _ _ _ _ h1)
      · rw [h1]
        exact Nat.le_refl _
    · exact h.elim
theorem ax_ev_mono {ph : Bool} : ∀ (d ν : Nat) (As : List Value) (σ : ax_S) (o : ax_O), ax_ev ph d ν As σ o → σ.1 ≤ o.2.1 := by
  intro d
  induction d with
  | zero => intro ν As σ o h; exact h.elim
  | succ d ih =>
    intro ν As σ o h
    obtain ⟨-, n, h⟩ := h
    exact ax_run_mono ih _ _ _ _ _ _ h
section
variable {p : Program} {l : Launch} {e : Env} {R : Room} {s : State} {m : MethodId} {args : Array Value} {below : List Frame} {meth : Method} {c : Code} {Q : State → Prop}
variable {D : va_G} {cA : Nat → ClassId} {b sb : Nat} {ph : Bool} {X : ax_X} {E : ax_E} {M : ax_M} {d n0 nL : Nat} {o : ax_O}
theorem ax_run_ok (hT3 : ∀ k t n, ax_sh k = .inr (t, n) → t < 3 ∨ t = 9) (hO : ax_On p l R s m args meth c D cA b sb ph X E M d n0 o.2.1 nL)
    (hR1 : ∀ (v : Int32) (σ : ax_S) (H : Heap) (locs : List Loc) (pc : Nat) (arr : Array Slot), o = (some (.int v), σ) → ax_wd D cA b ph σ H → va_S (ax_A b) s.heap H locs → decode M.2.1 pc = .ok (.ireturn, 1) → (M.2.2.2.1 = some .int ∨ (M.2.2.2.1 = some .boolean ∧ (v = 0 ∨ v = 1))) → ax_at p l e R s m args below meth c Q b sb n0 H locs pc arr [.int v] σ)
    (hR2 : ∀ (v : Int64) (σ : ax_S) (H : Heap) (locs : List Loc) (pc : Nat) (arr : Array Slot), o = (some (.long v), σ) → ax_wd D cA b ph σ H → va_S (ax_A b) s.heap H locs → decode M.2.1 pc = .ok (.lreturn, 1) → M.2.2.2.1 = some .long → ax_at p l e R s m args below meth c Q b sb n0 H locs pc arr [.long v] σ)
    (hR3 : ∀ (σ : ax_S) (H : Heap) (locs : List Loc) (pc : Nat) (arr : Array Slot), o = (none, σ) → ax_wd D cA b ph σ H → va_S (ax_A b) s.heap H locs → decode M.2.1 pc = .ok (.return_, 1) → M.2.2.2.1 = none → ax_at p l e R s m args below meth c Q b sb n0 H locs pc arr [] σ) :
    ∀ (n pc : Nat) (ls : ax_L) (st : List Value) (σ : ax_S) (H : Heap) (locs : List Loc) (arr : Array Slot), ax_run ph X E M n pc ls st σ o → arr.size = nL → ax_lh b sb arr ls → ax_wd D cA b ph σ H → va_S (ax_A b) s.heap H locs → n0 ≤ σ.1 → ax_at p l e R s m args below meth c Q b sb n0 H locs pc arr st σ := by
  intro n
  have hEm := hO.2.2.2.2.2.2.2.1
  induction n with
  | zero => intro pc ls st σ H locs arr h; exact h.elim
  | succ n ih =>
    intro pc ls st σ H locs arr h hsz hl hw hS hn0
    have hF := ax_run_mono hEm _ _ _ _ _ _ h
    unfold ax_run at h
    split at h
    · rename_i q hq
      obtain ⟨i, len⟩ := q
      exact ax_step hT3 hO hq h hsz hl hw hS hn0 hF (fun pc ls st σ' h9 => ax_run_mono hEm _ _ _ _ _ _ h9)
        (fun pc' ls' st' σ' H' locs' arr' h9 hle hw' hS' hl' hsz' => ih pc' ls' st' σ' H' locs' arr' h9 hsz' hl' hw' hS' (Nat.le_trans hn0 hle))
        (fun v h9 => hR1 v σ H locs pc arr h9 hw hS) (fun v h9 => hR2 v σ H locs pc arr h9 hw hS) (fun h9 => hR3 σ H locs pc arr h9 hw hS)
    · exact h.elim
end
def ax_PN (ν : Nat) : Prop := ax_MOK (ax_md ν) ∧ plainName (ax_md ν).1.cls = true ∧ (ax_md ν).1.cls = ax_on (ax_md ν).2.2.2.2.1
theorem ax_ev_met (hTT : ax_OK) (hT3 : ∀ k t n, ax_sh k = .inr (t, n) → t < 3 ∨ t = 9) (hPN : ∀ ν, ax_NOK ν → ax_PN ν) (l : Launch) (D : va_G) (cA : Nat → ClassId) (b sb : Nat) (ph : Bool) : ∀ (d ν : Nat) (As : List Value) (σ : ax_S) (o : ax_O), ax_ev ph d ν As σ o → ax_NOK ν → ax_Met l D cA b sb ph d ν As σ o := by
  intro d
  induction d with
  | zero => intro ν As σ o h; exact h.elim
  | succ d ih =>
    intro ν As σ o h hN
    obtain ⟨hen, n, hrun⟩ := h
    obtain ⟨hMO, hpl, hcl⟩ := hPN ν hN
    have hmm := ax_run_mono (ax_ev_mono d) _ _ _ _ _ _ hrun
    refine Met.ofW (cc := (ax_md ν).2.1) (maxL := (ax_md ν).2.2.1) (ret := (ax_md ν).2.2.2.1) hpl rfl ?_
    intro p e s m args below meth c s₁ B hml hv
    obtain ⟨rfl, hw, hK⟩ := hv
    have hx := B.exec
    have hb := B.bytes
    have hr := B.returns
    have hts0 := atoms_spec (ws := ax_ws ν) B.pre
    have hts : ∀ w ∈ ax_tb, w.before (As.map (ax_cv b sb)).toArray s = true := fun w h => hts0 w (List.mem_cons_of_mem _ h)
    have hown : s.vm.findClass (ax_on (ax_md ν).2.2.2.2.1) = some m.cls := by
      rw [← hcl]; exact findClass_of_methodNamed B.named
    have hlocks := B.notSynchronized
    have hnm : meth.name = (ax_md ν).1.name := (name_of_methodNamed B.named B.method).1
    rw [lg_entry_eq]
    have hl := ax_lh_entry b sb (ax_md ν) As hen
    have hsz : ((lg_sl (As.map (ax_cv b sb)) ++ List.replicate ((ax_md ν).2.2.1 - (lg_sl (As.map (ax_cv b sb))).length) Slot.unset).toArray).size = (ax_md ν).2.2.1 := by
      have := ax_en_len b sb As
      simp
      omega
    generalize (lg_sl (As.map (ax_cv b sb)) ++ List.replicate ((ax_md ν).2.2.1 - (lg_sl (As.map (ax_cv b sb))).length) Slot.unset).toArray = arr at hl hsz ⊢
    have hO : ax_On p l (headSpec (ax_ws ν) (ax_rm (d + 1) (o.2.1 - σ.1) (ax_sl o.2.1 - ax_sl σ.1))).room s m (As.map (ax_cv b sb)).toArray meth c D cA b sb ph none (ax_ev ph d) (ax_md ν) d σ.1 o.2.1 (ax_md ν).2.2.1 :=
      ⟨hTT, hMO, ⟨hx, hb, hml, hown, hts⟩, hK, hnm, (fun q h => by cases h), ih, ax_ev_mono d, Nat.le_refl _, Nat.le_refl _, Nat.le_refl _, Nat.le_refl _⟩
    have hfin : ∀ (v : Option Value) (σ' : ax_S) (H : Heap) (locs : List Loc), o = (v, σ') → ax_wd D cA b ph σ' H → va_S (ax_A b) s.heap H locs → ∀ t : State, t.heap = H → s.WarmedH t.vm → ax_Qc D cA b sb ph o (As.map (ax_cv b sb)).toArray s (.returned (v.map (ax_cv b sb))) t := by
      intro v σ' H locs ho hw' hS' t ht hW
      subst ho
      exact ⟨⟨rfl, by rw [ht]; exact hw'⟩, hS'.F ht⟩
    have go := ax_run_ok (e := e) (below := below) (Q := MQ below (ax_Qc D cA b sb ph o) (As.map (ax_cv b sb)).toArray s (o.2.1 - σ.1) (ax_sl o.2.1 - ax_sl σ.1) (ax_A b)) hT3 hO
      (fun v σ' H locs pc arr ho hw' hS' hd hrt => by
        have hf := hfin _ _ _ _ ho hw' hS'
        subst ho
        rcases hrt with hrt | ⟨hrt, hv⟩
        · exact W.iret (v := v) hx hb (hr.trans hrt) hf hS'.2.2 hd
        · exact W.zret (v := v) hx hb (hr.trans hrt) (by rcases hv with rfl | rfl <;> rfl) hf hS'.2.2 hd)
      (fun v σ' H locs pc arr ho hw' hS' hd hrt => by
        have hf := hfin _ _ _ _ ho hw' hS'
        subst ho
        exact W.lret (v := v) hx hb (hr.trans hrt) hf hS'.2.2 hd)
      (fun σ' H locs pc arr ho hw' hS' hd hrt => by
        have hf := hfin _ _ _ _ ho hw' hS'
        subst ho
        exact W.vret hx hb (hr.trans hrt) hf hS'.2.2 hd)
      n 0 (ax_lc (ax_md ν) As) [] σ s.heap [] arr hrun hsz hl hw va_S.rf (Nat.le_refl _)
    unfold ax_at at go
    rw [Nat.sub_self, Nat.sub_self] at go
    exact go
