/-! once all is made, no cell is made: a run keeps the count; a run up to a place; a method's name does not matter to a run -/
theorem ax_ins_keep {X : ax_X} {E : ax_E} {M : ax_M} {i : Instr} {pc : Nat} {ls : ax_L} {st : List Value} {σ : ax_S} {K : Nat → ax_L → List Value → ax_S → Prop} {Rt : Option Value → ax_S → Prop} (hEm : ∀ ν As σ o, E ν As σ o → o.2.1 = σ.1) (h : ax_ins true X E M i pc ls st σ K Rt) : (∃ pc' ls' st' σ', K pc' ls' st' σ' ∧ σ'.1 = σ.1) ∨ ∃ v, Rt v σ := by
  have jp : ∀ {off : Int} {P : Nat → Prop}, ax_jp pc off P → ∃ t, P t := fun hq => by
    obtain ⟨t, -, h⟩ := ax_jp_spec hq
    exact ⟨t, h⟩
  cases i
  case goto =>
    obtain ⟨t, h⟩ := jp h
    exact Or.inl ⟨_, _, _, _, h, rfl⟩
  case ifCond c0 off =>
    dsimp only [ax_ins] at h
    split at h
    · rename_i x r
      by_cases hc : ax_cmp c0 x 0
      · obtain ⟨t, h⟩ := jp (h.1 hc)
        exact Or.inl ⟨_, _, _, _, h, rfl⟩
      · exact Or.inl ⟨_, _, _, _, h.2 hc, rfl⟩
    · exact h.elim
  case if_icmp c0 off =>
    dsimp only [ax_ins] at h
    split at h
    · rename_i y x r
      by_cases hc : ax_cmp c0 x y
      · obtain ⟨t, h⟩ := jp (h.1 hc)
        exact Or.inl ⟨_, _, _, _, h, rfl⟩
      · exact Or.inl ⟨_, _, _, _, h.2 hc, rfl⟩
    · exact h.elim
  case tableswitch dflt lo hg offs =>
    dsimp only [ax_ins] at h
    split at h
    · rename_i x r
      by_cases hc : x.toInt < lo ∨ hg < x.toInt
      · obtain ⟨t, h⟩ := jp (h.1 hc)
        exact Or.inl ⟨_, _, _, _, h, rfl⟩
      · obtain ⟨t, h⟩ := jp (h.2 (x.toInt - lo).toNat (by omega) (by omega))
        exact Or.inl ⟨_, _, _, _, h, rfl⟩
    · exact h.elim
  case lookupswitch dflt ps =>
    dsimp only [ax_ins] at h
    split at h
    · rename_i x r
      rcases ax_look ps.toList dflt x.toInt with ⟨q, q1, q2, -⟩ | ⟨q1, -⟩
      · obtain ⟨t, h⟩ := jp (h.1 q q1 q2)
        exact Or.inl ⟨_, _, _, _, h, rfl⟩
      · obtain ⟨t, h⟩ := jp (h.2 q1)
        exact Or.inl ⟨_, _, _, _, h, rfl⟩
    · exact h.elim
  case new =>
    dsimp only [ax_ins] at h
    split at h
    · split at h
      · have h1 := (ax_bif h).1
        cases h1
      · exact h.elim
    · exact h.elim
  case newarray =>
    dsimp only [ax_ins] at h
    split at h
    · split at h
      · have h1 := (ax_bif h).1
        cases h1
      · exact h.elim
    · exact h.elim
  case getfield =>
    dsimp only [ax_ins] at h
    repeat' split at h
    all_goals first
      | exact h.elim
      | exact Or.inl ⟨_, _, _, _, (ax_bif h).2, rfl⟩
      | (obtain ⟨-, h⟩ := ax_bif h
         exact Or.inl ⟨_, _, _, _, h, rfl⟩)
  case putfield =>
    dsimp only [ax_ins] at h
    repeat' split at h
    all_goals first
      | exact h.elim
      | exact Or.inl ⟨_, _, _, _, (ax_bif h).2, rfl⟩
      | exact Or.inl ⟨_, _, _, _, (ax_bif h).2.2, rfl⟩
      | exact (ax_bif h).2.elim
  case invokestatic =>
    dsimp only [ax_ins] at h
    repeat' split at h
    all_goals first
      | exact h.elim
      | exact Or.inl ⟨_, _, _, _, (ax_bif h).2.2.2.2.2.2, rfl⟩
      | (rcases ax_bif2 h with h | h
         all_goals first
           | exact h.elim
           | exact Or.inl ⟨_, _, _, _, (ax_bif h).2, rfl⟩
           | (obtain ⟨-, o, h1, h2⟩ := ax_bif h
              exact Or.inl ⟨_, _, _, _, h2, hEm _ _ _ _ h1⟩))
  all_goals first
    | exact (show False from h).elim
    | (dsimp only [ax_ins] at h
       (repeat' split at h)
       all_goals first
         | exact h.elim
         | exact Or.inl ⟨_, _, _, _, h, rfl⟩
         | exact Or.inl ⟨_, _, _, _, h.2, rfl⟩
         | exact Or.inl ⟨_, _, _, _, (ax_bif h).2, rfl⟩
         | exact Or.inl ⟨_, _, _, _, (ax_bif h).2.2, rfl⟩
         | exact Or.inl ⟨_, _, _, _, (ax_bif h).2.2.2.2.2.2, rfl⟩
         | exact Or.inr ⟨_, h⟩
         | exact Or.inr ⟨_, h.2⟩
         | (obtain ⟨-, o, h1, h2⟩ := ax_bif h
            exact Or.inl ⟨_, _, _, _, h2, hEm _ _ _ _ h1⟩))
theorem ax_run_keep {X : ax_X} {E : ax_E} {M : ax_M} (hEm : ∀ ν As σ o, E ν As σ o → o.2.1 = σ.1) : ∀ (n pc : Nat) (ls : ax_L) (st : List Value) (σ : ax_S) (o : ax_O), ax_run true X E M n pc ls st σ o → o.2.1 = σ.1 := by
  intro n
  induction n with
  | zero => intro pc ls st σ o h; exact h.elim
  | succ n ih =>
    intro pc ls st σ o h
    unfold ax_run at h
    split at h
    · rcases ax_ins_keep hEm h with ⟨pc', ls', st', σ', h1, h2⟩ | ⟨v, h1⟩
      · exact (ih _ _ _ _ _ h1).trans h2
      · rw [h1]
    · exact h.elim
theorem ax_ev_keep : ∀ (d ν : Nat) (As : List Value) (σ : ax_S) (o : ax_O), ax_ev true d ν As σ o → o.2.1 = σ.1 := by
  intro d
  induction d with
  | zero => intro ν As σ o h; exact h.elim
  | succ d ih =>
    intro ν As σ o h
    obtain ⟨-, n, h⟩ := h
    exact ax_run_keep ih _ _ _ _ _ _ h
/-- a run of n instructions, to where K holds -/
def ax_rk (ph : Bool) (X : ax_X) (E : ax_E) (M : ax_M) (K : Nat → ax_L → List Value → ax_S → Prop) : Nat → Nat → ax_L → List Value → ax_S → Prop
  | 0, pc, ls, st, σ => K pc ls st σ
  | n + 1, pc, ls, st, σ => match M.2.2.2.2.2 pc with
    | some q => ax_ins ph X E M q.1 pc ls st σ (fun pc ls st σ => ax_rk ph X E M K n pc ls st σ) (fun _ _ => False)
    | none => False
theorem ax_rk_mono {ph : Bool} {X : ax_X} {E : ax_E} {M : ax_M} {K : Nat → ax_L → List Value → ax_S → Prop} {nF : Nat} (hEm : ∀ ν As σ o, E ν As σ o → σ.1 ≤ o.2.1) (hK : ∀ pc ls st σ, K pc ls st σ → σ.1 ≤ nF) : ∀ (n pc : Nat) (ls : ax_L) (st : List Value) (σ : ax_S), ax_rk ph X E M K n pc ls st σ → σ.1 ≤ nF := by
  intro n
  induction n with
  | zero => intro pc ls st σ h; exact hK _ _ _ _ h
  | succ n ih =>
    intro pc ls st σ h
    unfold ax_rk at h
    split at h
    · rcases ax_ins_mono hEm h with ⟨pc', ls', st', σ', h1, h2⟩ | ⟨v, h1⟩
      · exact Nat.le_trans h2 (ih _ _ _ _ h1)
      · exact h1.elim
    · exact h.elim
section
variable {p : Program} {l : Launch} {e : Env} {R : Room} {s : State} {m : MethodId} {args : Array Value} {below : List Frame} {meth : Method} {c : Code} {Q : State → Prop}
variable {D : va_G} {cA : Nat → ClassId} {b sb : Nat} {ph : Bool} {X : ax_X} {E : ax_E} {M : ax_M} {d n0 nL nF : Nat} {K : Nat → ax_L → List Value → ax_S → Prop}
theorem ax_rk_ok (hT3 : ∀ k t n, ax_sh k = .inr (t, n) → t < 3 ∨ t = 9) (hO : ax_On p l R s m args meth c D cA b sb ph X E M d n0 nF nL) (hKF : ∀ pc ls st σ, K pc ls st σ → σ.1 ≤ nF)
    (hK0 : ∀ (pc : Nat) (ls : ax_L) (st : List Value) (σ : ax_S) (H : Heap) (locs : List Loc) (arr : Array Slot), K pc ls st σ → ax_wd D cA b ph σ H → va_S (ax_A b) s.heap H locs → ax_lh b sb arr ls → arr.size = nL → n0 ≤ σ.1 → ax_at p l e R s m args below meth c Q b sb n0 H locs pc arr st σ) :
    ∀ (n pc : Nat) (ls : ax_L) (st : List Value) (σ : ax_S) (H : Heap) (locs : List Loc) (arr : Array Slot), ax_rk ph X E M K n pc ls st σ → arr.size = nL → ax_lh b sb arr ls → ax_wd D cA b ph σ H → va_S (ax_A b) s.heap H locs → n0 ≤ σ.1 → ax_at p l e R s m args below meth c Q b sb n0 H locs pc arr st σ := by
  intro n
  have hEm := hO.2.2.2.2.2.2.2.1
  induction n with
  | zero => intro pc ls st σ H locs arr h hsz hl hw hS hn0; exact hK0 _ _ _ _ _ _ _ h hw hS hl hsz hn0
  | succ n ih =>
    intro pc ls st σ H locs arr h hsz hl hw hS hn0
    have hF := ax_rk_mono hEm hKF _ _ _ _ _ h
    unfold ax_rk at h
    split at h
    · rename_i q hq
      obtain ⟨i, len⟩ := q
      exact ax_step hT3 hO hq h hsz hl hw hS hn0 hF (fun pc ls st σ' h9 => ax_rk_mono hEm hKF _ _ _ _ _ h9)
        (fun pc' ls' st' σ' H' locs' arr' h9 hle hw' hS' hl' hsz' => ih pc' ls' st' σ' H' locs' arr' h9 hsz' hl' hw' hS' (Nat.le_trans hn0 hle))
        (fun v h9 => h9.elim) (fun v h9 => h9.elim) (fun h9 => h9.elim)
    · exact h.elim
end
theorem ax_ins_nm {ph : Bool} {X : ax_X} {E : ax_E} {y y2 : MethodName} {r : ByteArray × Nat × Option FieldType × Nat × (Nat → Option (Instr × Nat))} (i : Instr) (pc : Nat) (ls : ax_L) (st : List Value) (σ : ax_S) (K : Nat → ax_L → List Value → ax_S → Prop) (Rt : Option Value → ax_S → Prop) : ax_ins ph X E (y, r) i pc ls st σ K Rt = ax_ins ph X E (y2, r) i pc ls st σ K Rt := by
  cases i <;> rfl
theorem ax_run_nm {ph : Bool} {X : ax_X} {E : ax_E} {y y2 : MethodName} {r : ByteArray × Nat × Option FieldType × Nat × (Nat → Option (Instr × Nat))} {o : ax_O} : ∀ (n pc : Nat) (ls : ax_L) (st : List Value) (σ : ax_S), ax_run ph X E (y, r) n pc ls st σ o = ax_run ph X E (y2, r) n pc ls st σ o := by
  intro n
  induction n with
  | zero => intro pc ls st σ; rfl
  | succ n ih =>
    intro pc ls st σ
    have e : (fun pc ls st σ => ax_run ph X E (y, r) n pc ls st σ o) = (fun pc ls st σ => ax_run ph X E (y2, r) n pc ls st σ o) := by
      funext pc ls st σ
      exact ih pc ls st σ
    unfold ax_run
    rw [e]
    show (match r.2.2.2.2 pc with
      | some q => _
      | none => False) = (match r.2.2.2.2 pc with
      | some q => _
      | none => False)
    cases r.2.2.2.2 pc with
    | none => rfl
    | some q => exact ax_ins_nm q.1 pc ls st σ _ _
/-- the law up to its loop -/
theorem i_law (d : Nat) (f : Nat → Nat → Int32) (g : Nat → Nat → Int64) (q : Nat × (Nat → Int32)) (y : MethodName) : ∃ f2 g2, iH 83 f2 iL_244 ∧ ax_rk false (some q) (ax_ev false (d + 4)) (y, ax_m286.2) (fun pc ls st σ => pc = 18 ∧ ls = [some (.ref 1000), some (.ref 0), some (.ref 63), some (.int (nI 0))] ∧ st = [] ∧ σ = (83, f2, g2)) 10 0 [some (.ref 1000), none, none, none] [] (0, f, g) := by
  have h1 : iH 1 (ax_up f 0 (fun _ => 0)) iL_1 := ⟨rfl, fun k hk => by
    obtain rfl : k = 0 := by omega
    rfl⟩
  obtain ⟨f2, g2, e2, h2⟩ := i_0_0 d (ax_up f 0 (fun _ => 0)) (ax_up g 0 (fun _ => 0)) h1
  obtain ⟨f3, g3, e3, h3⟩ : ∃ F2 G2, ax_nc (63, f2, g2) = (64, F2, G2) ∧ iH 64 F2 iL_176 := i_n h2 g2
  obtain ⟨f4, g4, e4, h4⟩ := i_176_63 (d + 3) f3 g3 h3
  refine ⟨f4, g4, h4, ?_⟩
  exact Exists.intro (none, (63, f2, g2)) (And.intro e2 (Exists.intro (none, (83, f4, g4)) (And.intro (show ax_ev false (d + 4) 176 [.ref 63] (ax_nc (63, f2, g2)) (none, (83, f4, g4)) by rw [e3]; exact e4) ⟨rfl, rfl, rfl, rfl⟩)))
