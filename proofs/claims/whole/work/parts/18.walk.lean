/-! for the walker: fewer locals known, a boolean's answer, segments -/
def ax_le : ax_L → ax_L → Prop
  | [], [] => True
  | none :: t, _ :: u => ax_le t u
  | some v :: t, w :: u => w = some v ∧ ax_le t u
  | _, _ => False
theorem ax_le_len : ∀ (l u : ax_L), ax_le l u → l.length = u.length
  | [], [], _ => rfl
  | none :: t, w :: u, h => congrArg (· + 1) (ax_le_len t u h)
  | some v :: t, w :: u, h => congrArg (· + 1) (ax_le_len t u h.2)
  | [], _ :: _, h => h.elim
  | none :: _, [], h => h.elim
  | some _ :: _, [], h => h.elim
theorem ax_le_at : ∀ (l u : ax_L), ax_le l u → ∀ (k : Nat) (v : Value), l[k]? = some (some v) → u[k]? = some (some v)
  | none :: t, w :: u, h, 0, v, hk => by simp at hk
  | none :: t, w :: u, h, k + 1, v, hk => by
    rw [List.getElem?_cons_succ] at hk ⊢
    exact ax_le_at t u h k v hk
  | some x :: t, w :: u, h, 0, v, hk => by
    rw [List.getElem?_cons_zero] at hk ⊢
    rw [h.1]
    exact hk
  | some x :: t, w :: u, h, k + 1, v, hk => by
    rw [List.getElem?_cons_succ] at hk ⊢
    exact ax_le_at t u h.2 k v hk
  | [], [], _, k, v, hk => by simp at hk
  | [], _ :: _, h, _, _, _ => h.elim
  | none :: _, [], h, _, _, _ => h.elim
  | some _ :: _, [], h, _, _, _ => h.elim
theorem ax_le_of : ∀ (l u : ax_L), l.length = u.length → (∀ (k : Nat) (v : Value), l[k]? = some (some v) → u[k]? = some (some v)) → ax_le l u
  | [], [], _, _ => trivial
  | none :: t, w :: u, h, hk => ax_le_of t u (Nat.succ.inj h) (fun k v q => by
    have := hk (k + 1) v (by rw [List.getElem?_cons_succ]; exact q)
    rwa [List.getElem?_cons_succ] at this)
  | some x :: t, w :: u, h, hk => ⟨by
    have := hk 0 x rfl
    rw [List.getElem?_cons_zero] at this
    exact Option.some.inj this, ax_le_of t u (Nat.succ.inj h) (fun k v q => by
    have := hk (k + 1) v (by rw [List.getElem?_cons_succ]; exact q)
    rwa [List.getElem?_cons_succ] at this)⟩
  | [], _ :: _, h, _ => by simp at h
  | none :: _, [], h, _ => by simp at h
  | some _ :: _, [], h, _ => by simp at h
theorem ax_le_getD {l u : ax_L} (h : ax_le l u) {k : Nat} {v : Value} (hk : l.getD k none = some v) : u.getD k none = some v := by
  rw [List.getD_eq_getElem?_getD, ax_le_at l u h k v (ax_getD hk)]
  rfl
theorem ax_le_set {l u : ax_L} (h : ax_le l u) (k : Nat) (w : Option Value) : ax_le (l.set k w) (u.set k w) := by
  refine ax_le_of _ _ (by simp [ax_le_len l u h]) fun i v hi => ?_
  by_cases hik : i = k
  · subst hik
    rw [List.getElem?_set] at hi ⊢
    simp only [if_true] at hi ⊢
    split at hi
    · rename_i hlt
      rw [if_pos (by rw [← ax_le_len l u h]; exact hlt)]
      exact hi
    · cases hi
  · rw [List.getElem?_set_ne (Ne.symm hik)] at hi ⊢
    exact ax_le_at l u h i v hi
theorem ax_le_kill {l u : ax_L} (h : ax_le l u) (k i : Nat) (hik : i = k + 1 ∨ i = k) (v : Value) : ax_le ((ax_kill l k).set i (some v)) ((ax_kill u k).set i (some v)) := by
  refine ax_le_of _ _ ?_ fun j w hj => ?_
  · unfold ax_kill
    cases ax_isL (l.getD k none) <;> cases ax_isL (u.getD k none) <;> simp [ax_le_len l u h]
  · by_cases hji : j = i
    · subst hji
      have e1 : (ax_kill l k).length = l.length := by unfold ax_kill; cases ax_isL (l.getD k none) <;> simp
      have e2 : (ax_kill u k).length = u.length := by unfold ax_kill; cases ax_isL (u.getD k none) <;> simp
      rw [List.getElem?_set] at hj ⊢
      simp only [if_true, e1, e2, ← ax_le_len l u h] at hj ⊢
      exact hj
    · rw [List.getElem?_set_ne (Ne.symm hji)] at hj ⊢
      obtain ⟨h1, h2⟩ := ax_kill_in hj
      have h3 := ax_le_at l u h j w h1
      unfold ax_kill
      cases hc : ax_isL (u.getD k none) with
      | false => exact h3
      | true =>
        simp only [cond_true]
        by_cases hjk : j = k
        · subst hjk
          exfalso
          apply h2
          refine ⟨rfl, ?_⟩
          rw [List.getD_eq_getElem?_getD, h3] at hc
          exact Nat.eq_of_beq_eq_true hc
        · rw [List.getElem?_set_ne (Ne.symm hjk)]
          exact h3
theorem ax_le_st1 {l u : ax_L} (h : ax_le l u) (k : Nat) (v : Value) : ax_le (ax_st1 l k v) (ax_st1 u k v) := ax_le_kill h (k - 1) k (by omega) v
theorem ax_le_st2 {l u : ax_L} (h : ax_le l u) (k : Nat) (v : Value) : ax_le (ax_st2 l k v) (ax_st2 u k v) := ax_le_set (ax_le_kill h (k - 1) k (by omega) v) (k + 1) none
theorem ax_bif_mono {c : Bool} {P R : Prop} (h : P → R) : (bif c then P else False) → bif c then R else False := by
  cases c
  · exact id
  · exact h
theorem ax_bif_mono2 {c : Bool} {P P' R R' : Prop} (h : P → P') (h2 : R → R') : (bif c then P else R) → bif c then P' else R' := by
  cases c
  · exact h2
  · exact h
theorem ax_jp_mono {pc : Nat} {off : Int} {P R : Nat → Prop} (h : ∀ t, P t → R t) : ax_jp pc off P → ax_jp pc off R := by
  unfold ax_jp
  split
  · exact h _
  · exact id
set_option maxHeartbeats 4000000 in
theorem ax_ins_monoK {ph : Bool} {X : ax_X} {E : ax_E} {M : ax_M} {i : Instr} {pc : Nat} {ls : ax_L} {st : List Value} {σ : ax_S} {K K' : Nat → ax_L → List Value → ax_S → Prop} {Rt : Option Value → ax_S → Prop} (hK : ∀ pc l st σ, K pc l st σ → K' pc l st σ) : ax_ins ph X E M i pc ls st σ K Rt → ax_ins ph X E M i pc ls st σ K' Rt := by
  cases i
  case goto => exact ax_jp_mono fun t => hK _ _ _ _
  case ifCond =>
    dsimp only [ax_ins]
    split
    · exact fun h => ⟨fun q => ax_jp_mono (fun t => hK _ _ _ _) (h.1 q), fun q => hK _ _ _ _ (h.2 q)⟩
    · exact id
  case if_icmp =>
    dsimp only [ax_ins]
    split
    · exact fun h => ⟨fun q => ax_jp_mono (fun t => hK _ _ _ _) (h.1 q), fun q => hK _ _ _ _ (h.2 q)⟩
    · exact id
  case tableswitch =>
    dsimp only [ax_ins]
    split
    · exact fun h => ⟨fun q => ax_jp_mono (fun t => hK _ _ _ _) (h.1 q), fun j q1 q2 => ax_jp_mono (fun t => hK _ _ _ _) (h.2 j q1 q2)⟩
    · exact id
  case lookupswitch =>
    dsimp only [ax_ins]
    split
    · exact fun h => ⟨fun j q1 q2 => ax_jp_mono (fun t => hK _ _ _ _) (h.1 j q1 q2), fun q => ax_jp_mono (fun t => hK _ _ _ _) (h.2 q)⟩
    · exact id
  all_goals first
    | exact (fun h => (show False from h).elim)
    | (dsimp only [ax_ins]
       repeat' split
       all_goals first
         | exact id
         | exact hK _ _ _ _
         | exact fun h => ⟨h.1, hK _ _ _ _ h.2⟩
         | exact ax_bif_mono (hK _ _ _ _)
         | exact ax_bif_mono fun h => ⟨h.1, hK _ _ _ _ h.2⟩
         | exact ax_bif_mono fun h => ⟨h.1, h.2.1, h.2.2.1, h.2.2.2.1, h.2.2.2.2.1, hK _ _ _ _ h.2.2.2.2.2⟩
         | exact ax_bif_mono fun h => h.elim fun o q => ⟨o, q.1, hK _ _ _ _ q.2⟩
         | exact ax_bif_mono (ax_bif_mono2 (hK _ _ _ _) fun h => ⟨h.1, hK _ _ _ _ h.2⟩)
         | exact ax_bif_mono2 (ax_bif_mono (hK _ _ _ _)) (ax_bif_mono fun h => h.elim fun o q => ⟨o, q.1, hK _ _ _ _ q.2⟩)
         | exact ax_bif_mono2 (ax_bif_mono (hK _ _ _ _)) id
         | exact ax_bif_mono2 id (ax_bif_mono fun h => h.elim fun o q => ⟨o, q.1, hK _ _ _ _ q.2⟩))
def ax_isLoc : Instr → Bool
  | .iload_n _ | .iload _ | .lload_n _ | .lload _ | .aload_n _ | .aload _ | .iinc _ _ | .istore_n _ | .istore _ | .astore_n _ | .astore _ | .lstore _ => true
  | _ => false
theorem ax_ins_a1 {ph : Bool} {X : ax_X} {E : ax_E} {M : ax_M} {i : Instr} {pc : Nat} {ls ls' : ax_L} {st : List Value} {σ : ax_S} {K : Nat → ax_L → List Value → ax_S → Prop} {Rt : Option Value → ax_S → Prop} : ax_isLoc i = true ∨ (ax_ins ph X E M i pc ls st σ K Rt → ax_ins ph X E M i pc ls' st σ (fun pc _ st σ => K pc ls st σ) Rt) := by
  cases i <;> first | exact Or.inl rfl | exact Or.inr fun h => h
theorem ax_ins_a2 {ph : Bool} {X : ax_X} {E : ax_E} {M : ax_M} {i : Instr} {pc : Nat} {ls' : ax_L} {st : List Value} {σ : ax_S} {K' : Nat → ax_L → List Value → ax_S → Prop} {Rt : Option Value → ax_S → Prop} : ax_isLoc i = true ∨ (ax_ins ph X E M i pc ls' st σ (fun pc _ st σ => K' pc ls' st σ) Rt → ax_ins ph X E M i pc ls' st σ K' Rt) := by
  cases i <;> first | exact Or.inl rfl | exact Or.inr fun h => h
theorem ax_ins_leL {ph : Bool} {X : ax_X} {E : ax_E} {M : ax_M} {i : Instr} {pc : Nat} {ls ls' : ax_L} {st : List Value} {σ : ax_S} {K K' : Nat → ax_L → List Value → ax_S → Prop} {Rt : Option Value → ax_S → Prop} (hc : ax_isLoc i = true) (hle : ax_le ls ls') (hK : ∀ pc l l' st σ, ax_le l l' → K pc l st σ → K' pc l' st σ) (h : ax_ins ph X E M i pc ls st σ K Rt) : ax_ins ph X E M i pc ls' st σ K' Rt := by
  cases i
  case iload_n k =>
    dsimp only [ax_ins] at h ⊢
    split at h
    · rename_i v hv
      rw [ax_le_getD hle hv]
      exact hK _ _ _ _ _ hle h
    · exact h.elim
  case iload k =>
    dsimp only [ax_ins] at h ⊢
    split at h
    · rename_i v hv
      rw [ax_le_getD hle hv]
      exact hK _ _ _ _ _ hle h
    · exact h.elim
  case lload_n k =>
    dsimp only [ax_ins] at h ⊢
    split at h
    · rename_i v hv
      rw [ax_le_getD hle hv]
      exact hK _ _ _ _ _ hle h
    · exact h.elim
  case lload k =>
    dsimp only [ax_ins] at h ⊢
    split at h
    · rename_i v hv
      rw [ax_le_getD hle hv]
      exact hK _ _ _ _ _ hle h
    · exact h.elim
  case aload_n k =>
    dsimp only [ax_ins] at h ⊢
    split at h
    · rename_i v hv
      rw [ax_le_getD hle hv]
      exact hK _ _ _ _ _ hle h
    · exact h.elim
  case aload k =>
    dsimp only [ax_ins] at h ⊢
    split at h
    · rename_i v hv
      rw [ax_le_getD hle hv]
      exact hK _ _ _ _ _ hle h
    · exact h.elim
  case iinc k n =>
    dsimp only [ax_ins] at h ⊢
    split at h
    · rename_i v hv
      rw [ax_le_getD hle hv]
      exact hK _ _ _ _ _ (ax_le_st1 hle _ _) h
    · exact h.elim
  case istore_n k =>
    dsimp only [ax_ins] at h ⊢
    rw [← ax_le_len _ _ hle]
    split at h
    · exact ax_bif_mono (hK _ _ _ _ _ (ax_le_st1 hle _ _)) h
    · exact h.elim
  case istore k =>
    dsimp only [ax_ins] at h ⊢
    rw [← ax_le_len _ _ hle]
    split at h
    · exact ax_bif_mono (hK _ _ _ _ _ (ax_le_st1 hle _ _)) h
    · exact h.elim
  case astore_n k =>
    dsimp only [ax_ins] at h ⊢
    rw [← ax_le_len _ _ hle]
    split at h
    · exact ax_bif_mono (hK _ _ _ _ _ (ax_le_st1 hle _ _)) h
    · exact h.elim
  case astore k =>
    dsimp only [ax_ins] at h ⊢
    rw [← ax_le_len _ _ hle]
    split at h
    · exact ax_bif_mono (hK _ _ _ _ _ (ax_le_st1 hle _ _)) h
    · exact h.elim
  case lstore k =>
    dsimp only [ax_ins] at h ⊢
    rw [← ax_le_len _ _ hle]
    split at h
    · exact ax_bif_mono (hK _ _ _ _ _ (ax_le_st2 hle _ _)) h
    · exact h.elim
  all_goals cases hc
theorem ax_ins_le {ph : Bool} {X : ax_X} {E : ax_E} {M : ax_M} {i : Instr} {pc : Nat} {ls ls' : ax_L} {st : List Value} {σ : ax_S} {K K' : Nat → ax_L → List Value → ax_S → Prop} {Rt : Option Value → ax_S → Prop} (hle : ax_le ls ls') (hK : ∀ pc l l' st σ, ax_le l l' → K pc l st σ → K' pc l' st σ) (h : ax_ins ph X E M i pc ls st σ K Rt) : ax_ins ph X E M i pc ls' st σ K' Rt := by
  rcases ax_ins_a1 (ph := ph) (X := X) (E := E) (M := M) (i := i) (pc := pc) (ls := ls) (ls' := ls') (st := st) (σ := σ) (K := K) (Rt := Rt) with hc | a1
  case inr =>
    rcases ax_ins_a2 (ph := ph) (X := X) (E := E) (M := M) (i := i) (pc := pc) (ls' := ls') (st := st) (σ := σ) (K' := K') (Rt := Rt) with hc | a2
    case inr => exact a2 (ax_ins_monoK (fun pc l st σ q => hK _ _ _ _ _ hle q) (a1 h))
    case inl =>
      rcases ax_ins_a1 (ph := ph) (X := X) (E := E) (M := M) (i := i) (pc := pc) (ls := ls) (ls' := ls') (st := st) (σ := σ) (K := K) (Rt := Rt) with hc2 | _
      all_goals exact ax_ins_leL hc hle hK h
  case inl => exact ax_ins_leL hc hle hK h
theorem ax_run_le {ph : Bool} {X : ax_X} {E : ax_E} {M : ax_M} : ∀ (n pc : Nat) (ls ls' : ax_L) (st : List Value) (σ : ax_S) (o : ax_O), ax_le ls ls' → ax_run ph X E M n pc ls st σ o → ax_run ph X E M n pc ls' st σ o := by
  intro n
  induction n with
  | zero => intro pc ls ls' st σ o _ h; exact h.elim
  | succ n ih =>
    intro pc ls ls' st σ o hle h
    unfold ax_run at h ⊢
    split at h
    · exact ax_ins_le hle (fun pc l l' st σ h1 h2 => ih pc l l' st σ o h1 h2) h
    · exact h.elim
/-- a cut: k instructions on, with fewer locals known -/
theorem ax_cut {X : ax_X} {E : ax_E} {M : ax_M} {pc pc' : Nat} {ls la : ax_L} (lc : ax_L) {st st' : List Value} {σ σ' : ax_S} {o : ax_O} (k : Nat) (hle : ax_le lc la) (h : ∀ n, ax_run true X E M n pc' la st' σ' o → ax_run true X E M (n + k) pc ls st σ o) (g : ax_go true X E M pc' lc st' σ' o) : ax_go true X E M pc ls st σ o := by
  obtain ⟨n, hn⟩ := g
  exact ⟨n + k, h n (ax_run_le n _ _ _ _ _ _ hle hn)⟩
/-- an end: an answer behind k instructions -/
theorem ax_end {X : ax_X} {E : ax_E} {M : ax_M} {pc : Nat} {ls : ax_L} {st : List Value} {σ : ax_S} {o : ax_O} (k : Nat) (h : ax_run true X E M k pc ls st σ o) : ax_go true X E M pc ls st σ o := ⟨k, h⟩
/-- a boolean method's answer is 0 or 1 -/
def ax_isRet : Instr → Bool
  | .ireturn | .lreturn | .return_ => true
  | _ => false
theorem ax_ins_a3 {ph : Bool} {X : ax_X} {E : ax_E} {M : ax_M} {i : Instr} {pc : Nat} {ls : ax_L} {st : List Value} {σ : ax_S} {K : Nat → ax_L → List Value → ax_S → Prop} {Rt : Option Value → ax_S → Prop} : ax_isRet i = true ∨ (ax_ins ph X E M i pc ls st σ K Rt → ax_ins ph X E M i pc ls st σ K (fun _ _ => False)) := by
  cases i <;> first | exact Or.inl rfl | exact Or.inr fun h => h
theorem ax_ins_bool {ph : Bool} {X : ax_X} {E : ax_E} {M : ax_M} {i : Instr} {pc : Nat} {ls : ax_L} {st : List Value} {σ : ax_S} {K : Nat → ax_L → List Value → ax_S → Prop} {o : ax_O} (hb : M.2.2.2.1 = some .boolean) (hEm : ∀ ν As σ o, E ν As σ o → σ.1 ≤ o.2.1) (hK : ∀ pc l st σ, K pc l st σ → ∀ v, o.1 = some (.int v) → v = 0 ∨ v = 1) (h : ax_ins ph X E M i pc ls st σ K (fun v σ => o = (v, σ))) : ∀ v, o.1 = some (.int v) → v = 0 ∨ v = 1 := by
  have h2 : ax_ins ph X E M i pc ls st σ (fun _ _ _ _ => ∀ v, o.1 = some (.int v) → v = 0 ∨ v = 1) (fun v σ => o = (v, σ)) := ax_ins_monoK hK h
  rcases ax_ins_a3 (ph := ph) (X := X) (E := E) (M := M) (i := i) (pc := pc) (ls := ls) (st := st) (σ := σ) (K := fun _ _ _ _ => ∀ v, o.1 = some (.int v) → v = 0 ∨ v = 1) (Rt := fun v σ => o = (v, σ)) with hc | a3
  · cases i
    case ireturn =>
      dsimp only [ax_ins] at h
      rw [hb] at h
      split at h
      · intro v hv
        obtain ⟨h1, h3⟩ := h
        rw [h3] at hv
        cases hv
        exact h1
      · exact h.elim
    case lreturn =>
      dsimp only [ax_ins] at h
      rw [hb] at h
      split at h
      · exact h.elim
      · exact h.elim
    case return_ =>
      dsimp only [ax_ins] at h
      rw [hb] at h
      split at h
      · exact h.elim
      · exact h.elim
    all_goals cases hc
  · rcases ax_ins_mono hEm (a3 h2) with ⟨_, _, _, _, h3, -⟩ | ⟨_, h3⟩
    · exact h3
    · exact h3.elim
theorem ax_run_bool {ph : Bool} {X : ax_X} {E : ax_E} {M : ax_M} (hb : M.2.2.2.1 = some .boolean) (hEm : ∀ ν As σ o, E ν As σ o → σ.1 ≤ o.2.1) : ∀ (n pc : Nat) (ls : ax_L) (st : List Value) (σ : ax_S) (o : ax_O), ax_run ph X E M n pc ls st σ o → ∀ v, o.1 = some (.int v) → v = 0 ∨ v = 1 := by
  intro n
  induction n with
  | zero => intro pc ls st σ o h; exact h.elim
  | succ n ih =>
    intro pc ls st σ o h
    unfold ax_run at h
    split at h
    · exact ax_ins_bool hb hEm (fun pc l st σ q => ih pc l st σ o q) h
    · exact h.elim
theorem ax_ev_bool {ph : Bool} {d ν : Nat} {As : List Value} {σ σ' : ax_S} {v : Int32} (hb : (ax_md ν).2.2.2.1 = some .boolean) (h : ax_ev ph d ν As σ (some (.int v), σ')) : v = 0 ∨ v = 1 := by
  cases d with
  | zero => exact h.elim
  | succ d =>
    obtain ⟨-, n, h⟩ := h
    exact ax_run_bool hb (ax_ev_mono d) _ _ _ _ _ _ h v rfl
/-- switches -/
theorem ax_tabT {x : Int32} {lo hg : Int} {j0 N : Nat} {A : Prop} {P : Nat → Prop} (hx : x.toInt = lo + j0) (hr : ¬ (x.toInt < lo ∨ hg < x.toInt)) (h : P j0) : (x.toInt < lo ∨ hg < x.toInt → A) ∧ ∀ j : Nat, j < N → x.toInt = lo + j → P j := by
  refine ⟨fun q => absurd q hr, fun j _ e => ?_⟩
  have : j = j0 := by omega
  subst this
  exact h
theorem ax_tabF {x : Int32} {lo hg : Int} {N : Nat} {A : Prop} {P : Nat → Prop} (hN : N = (hg - lo + 1).toNat) (hr : x.toInt < lo ∨ hg < x.toInt) (h : A) : (x.toInt < lo ∨ hg < x.toInt → A) ∧ ∀ j : Nat, j < N → x.toInt = lo + j → P j := by
  refine ⟨fun _ => h, fun j hj e => ?_⟩
  exfalso
  omega
theorem ax_ne_toInt {x y : Int32} (h : ¬ x = y) : x.toInt ≠ y.toInt := fun e => h (Int32.toInt_inj.mp e)
