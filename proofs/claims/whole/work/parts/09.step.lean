/-! ONE INSTRUCTION of the pure machine is one of the machine's -/
def ax_ln : Instr → Nat
  | .bipush _ | .ldc _ | .iload _ | .lload _ | .aload _ | .istore _ | .astore _ | .lstore _ | .newarray _ => 2
  | .sipush _ | .ldc_w _ | .ldc2_w _ | .iinc _ _ | .goto _ | .ifCond _ _ | .if_icmp _ _ | .getfield _ | .putfield _ | .new _ | .invokestatic _ | .invokespecial _ | .invokevirtual _ => 3
  | .tableswitch _ _ _ _ | .lookupswitch _ _ => 0
  | _ => 1
/-- what an instruction's row must be like beyond its decoding -/
def ax_iok (pc : Nat) (i : Instr) (len : Nat) : Bool := (Nat.beq (ax_ln i) len || Nat.beq (ax_ln i) 0) && (match i with
  | .goto off => decide (0 ≤ (pc : Int) + off)
  | .ifCond _ off => decide (0 ≤ (pc : Int) + off)
  | .if_icmp _ off => decide (0 ≤ (pc : Int) + off)
  | .tableswitch _ lo hi offs => decide (offs.size = (hi - lo + 1).toNat)
  | .lookupswitch _ ps => (ps.toList.zip (ps.toList.drop 1)).all (fun (a, next) => a.1 < next.1)
  | _ => true)
def ax_MOK (M : ax_M) : Prop := (∀ pc i len, M.2.2.2.2.2 pc = some (i, len) → decode M.2.1 pc = .ok (i, len) ∧ ax_iok pc i len = true) ∧
  (∀ pc x len ci j, M.2.2.2.2.2 pc = some (.putfield x, len) → ax_fl M.2.2.2.2.1 x ci = some j → ∀ C T N, ax_cl[ci]? = some (C, T, N) → (T j).2.2.2 = false ∨ ((T j).2.2.2 = true ∧ M.1.name = "<init>" ∧ (T j).1 = ax_on M.2.2.2.2.1))
def ax_CK (o x n k ci ν : Nat) : Prop := ax_NOK ν ∧ (match k with
  | 0 => ∃ y, (ax_md ν).1 = y ∧ ax_par y n ∧ Jvm.Cond.methodLink (ax_on o) x y ∈ ax_tb ∧ Jvm.Cond.static y ∈ ax_tb ∧ Jvm.Cond.initialized y.cls ∈ ax_tb
  | 1 => ∃ y C T N, (ax_md ν).1 = y ∧ ax_cl[ci]? = some (C, T, N) ∧ y.cls = C ∧ ax_par y n ∧ Jvm.Cond.methodLink (ax_on o) x y ∈ ax_tb ∧ Jvm.Cond.instanceMethod y ∈ ax_tb ∧ Jvm.Cond.selects C y y ∈ ax_tb ∧ Jvm.Cond.initialized C ∈ ax_tb
  | 4 => ∃ y, (ax_md ν).1 = y ∧ (ax_md ν).2.2.2.1 = none ∧ y.name = "<init>" ∧ ax_par y n ∧ Jvm.Cond.methodLink (ax_on o) x y ∈ ax_tb ∧ Jvm.Cond.instanceMethod y ∈ ax_tb ∧ Jvm.Cond.initialized y.cls ∈ ax_tb
  | 5 => ∃ y host, (ax_md ν).1 = y ∧ ax_par y n ∧ (ax_on o, x, y, host) ∈ ax_nl ∧ Jvm.Cond.static y ∈ ax_tb ∧ Jvm.Cond.initialized y.cls ∈ ax_tb
  | 6 => ∃ y host, (ax_md ν).1 = y ∧ (ax_md ν).2.2.2.1 = none ∧ y.name = "<init>" ∧ ax_par y n ∧ (ax_on o, x, y, host) ∈ ax_nl ∧ Jvm.Cond.instanceMethod y ∈ ax_tb ∧ Jvm.Cond.initialized y.cls ∈ ax_tb
  | 7 => ∃ z owner, (ax_md ν).1 = ⟨owner, z.name, z.desc⟩ ∧ ax_par z n ∧ (owner ≠ "java/lang/invoke/MethodHandle" ∧ owner ≠ "java/lang/invoke/VarHandle") ∧ Jvm.Cond.methodLink (ax_on o) x z ∈ ax_tb ∧ Jvm.Cond.sameMethod z.cls owner z.name z.desc ∈ ax_tb ∧ Jvm.Cond.static ⟨owner, z.name, z.desc⟩ ∈ ax_tb ∧ Jvm.Cond.initialized owner ∈ ax_tb
  | 2 | 3 => ∃ z y owner C T N, (ax_md ν).1 = y ∧ ax_cl[ci]? = some (C, T, N) ∧ (y = ⟨owner, z.name, z.desc⟩ ∨ (⟨owner, z.name, z.desc⟩ : MethodName) ∈ ax_dl) ∧ ax_par z n ∧ (owner ≠ "java/lang/invoke/MethodHandle" ∧ owner ≠ "java/lang/invoke/VarHandle") ∧ Jvm.Cond.methodLink (ax_on o) x z ∈ ax_tb ∧ Jvm.Cond.sameMethod z.cls owner z.name z.desc ∈ ax_tb ∧ Jvm.Cond.selects C z y ∈ ax_tb ∧ Jvm.Cond.instanceMethod y ∈ ax_tb ∧ Jvm.Cond.initialized y.cls ∈ ax_tb
  | _ => False)
def ax_mn (k : Nat) : MethodName := match k with
  | 10 => Lib.Math.max.name
  | 11 => Lib.Math.min.name
  | 12 => Lib.Math.abs.name
  | 13 => Lib.MathLoose.max_long.x
  | _ => Lib.MathLoose.min_long.x
/-- java/lang/Math's rows -/
def ax_OKM : Prop := (∀ o x n k p0 es, ax_ca o x = some (n, k, p0, es) → 10 ≤ k → Jvm.Cond.methodLink (ax_on o) x (ax_mn k) ∈ ax_tb) ∧ (∀ k, 10 ≤ k → k ≤ 14 → Jvm.Cond.static (ax_mn k) ∈ ax_tb) ∧ Jvm.Cond.initialized "java/lang/Math" ∈ ax_tb ∧ Jvm.Cond.code Lib.Math.max.name Lib.Math.max.code 2 (some .int) ∈ ax_tb ∧ Jvm.Cond.code Lib.Math.min.name Lib.Math.min.code 2 (some .int) ∈ ax_tb ∧ Jvm.Cond.code Lib.Math.abs.name Lib.Math.abs.code 1 (some .int) ∈ ax_tb ∧ Jvm.Cond.code Lib.MathLoose.max_long.x Lib.MathLoose.max_long.code 4 (some .long) ∈ ax_tb ∧ Jvm.Cond.code Lib.MathLoose.min_long.x Lib.MathLoose.min_long.code 4 (some .long) ∈ ax_tb
def ax_OK : Prop := (∀ o x ci j, ax_fl o x ci = some j → ax_FOK o x ci j) ∧
  (∀ ci C T N, ax_cl[ci]? = some (C, T, N) → ax_COK ci C T N ∧ (ax_kdl.getD ci []).length = N) ∧
  (∀ k ci, ax_sh k = .inl ci → k < ax_NT ∧ ∃ C T N, ax_cl[ci]? = some (C, T, N)) ∧
  (∀ k t n, ax_sh k = .inr (t, n) → t < 3 → k < ax_NT ∧ n ≤ 4096) ∧
  (ax_NT ≤ 900 ∧ ∀ k j, ax_rf k j < 1000) ∧
  (∀ o x v, ax_kc o x = some v → Jvm.Cond.constant (ax_on o) x v ∈ ax_tb) ∧
  (∀ o x v, ax_kl o x = some v → Jvm.Cond.constantLong (ax_on o) x v ∈ ax_tb) ∧
  (∀ o x ci C T N, ax_nw o x = some ci → ax_cl[ci]? = some (C, T, N) → Jvm.Cond.classLink (ax_on o) x C ∈ ax_tb ∧ Jvm.Cond.initialized C ∈ ax_tb) ∧
  (∀ t, t < 3 → Jvm.Cond.arrayClass (ax_tya t) ∈ ax_tb) ∧
  (∀ o x n k p0 es, ax_ca o x = some (n, k, p0, es) → (k = 9 → Jvm.Cond.methodLink (ax_on o) x arraycopyName ∈ ax_tb) ∧ (k = 8 → Jvm.Cond.methodLink (ax_on o) x Lib.objectInit ∈ ax_tb) ∧ (k ≠ 8 → k ≠ 9 → ∀ ci ν, ax_pick ci es = some ν → ax_CK o x n k ci ν)) ∧
  (Jvm.Cond.native arraycopyName ∈ ax_tb ∧ Jvm.Cond.static arraycopyName ∈ ax_tb ∧ Jvm.Cond.initialized "java/lang/System" ∈ ax_tb ∧ Jvm.Cond.instanceMethod Lib.objectInit ∈ ax_tb ∧ Jvm.Cond.code Lib.objectInit ⟨#[0xb1]⟩ 1 none ∈ ax_tb ∧ ax_OKM)
theorem ax_jp_spec {pc : Nat} {off : Int} {P : Nat → Prop} (h : ax_jp pc off P) : ∃ t : Nat, (pc : Int) + off = (t : Int) ∧ P t := by
  unfold ax_jp at h
  cases hq : (pc : Int) + off with
  | ofNat t => rw [hq] at h; exact ⟨t, rfl, h⟩
  | negSucc t => rw [hq] at h; exact h.elim
theorem ax_look (l : List (Int × Int)) (d k : Int) : (∃ q ∈ l, k = q.1 ∧ Op.lookupswitch.offset l d k = q.2) ∨ ((∀ q ∈ l, k ≠ q.1) ∧ Op.lookupswitch.offset l d k = d) := by
  induction l with
  | nil => exact Or.inr ⟨fun q h => absurd h List.not_mem_nil, rfl⟩
  | cons a l ih =>
    obtain ⟨a, o⟩ := a
    by_cases h : a = k
    · exact Or.inl ⟨(a, o), List.mem_cons_self, h.symm, by rw [Op.lookupswitch.offset_cons, if_pos h]⟩
    · rcases ih with ⟨q, h1, h2, h3⟩ | ⟨h1, h2⟩
      · exact Or.inl ⟨q, List.mem_cons_of_mem _ h1, h2, by rw [Op.lookupswitch.offset_cons, if_neg h]; exact h3⟩
      · refine Or.inr ⟨fun q hq => ?_, by rw [Op.lookupswitch.offset_cons, if_neg h]; exact h2⟩
        rcases List.mem_cons.mp hq with rfl | hq
        · exact fun e => h e.symm
        · exact h1 q hq
section
variable {p : Program} {l : Launch} {e : Env} {R : Room} {s : State} {m : MethodId} {args : Array Value} {below : List Frame} {meth : Method} {c : Code} {H : Heap} {locs : List Loc} {Q : State → Prop}
variable {D : va_G} {cA : Nat → ClassId} {b sb : Nat} {ph : Bool} {X : ax_X} {E : ax_E} {M : ax_M} {d n0 nF : Nat}
/-- a method that is under way: all that does not change from instruction to instruction -/
def ax_On (p : Program) (l : Launch) (R : Room) (s : State) (m : MethodId) (args : Array Value) (meth : Method) (c : Code) (D : va_G) (cA : Nat → ClassId) (b sb : Nat) (ph : Bool) (X : ax_X) (E : ax_E) (M : ax_M) (d n0 nF nL : Nat) : Prop := ax_OK ∧ ax_MOK M ∧
  CallFix p m c M.2.1 nL s args ax_tb (ax_on M.2.2.2.2.1) ∧ ax_K D cA s ∧ meth.name = M.1.name ∧
  (∀ q, X = some q → va_X sb q.1 q.2 s s.heap ∧ sb < s.heap.size ∧ s.heap.size ≤ b) ∧
  (∀ ν As σ o, E ν As σ o → ax_NOK ν → ax_Met l D cA b sb ph d ν As σ o) ∧ (∀ ν As σ o, E ν As σ o → σ.1 ≤ o.2.1) ∧
  d + 1 ≤ R.frames ∧ 100 * (d + 1) ≤ R.locals ∧ nF - n0 ≤ R.cells ∧ ax_sl nF - ax_sl n0 ≤ R.slots
abbrev ax_at (p : Program) (l : Launch) (e : Env) (R : Room) (s : State) (m : MethodId) (args : Array Value) (below : List Frame) (meth : Method) (c : Code) (Q : State → Prop) (b sb n0 : Nat) (H : Heap) (locs : List Loc) (pc : Nat) (arr : Array Slot) (st : List Value) (σ : ax_S) : Prop := W p l e R s m args below meth c H locs (σ.1 - n0) (ax_sl σ.1 - ax_sl n0) Q (F0 m pc arr (st.map (ax_cv b sb)))
theorem ax_ref_get {a : Nat} (h : a < 1000) {P : Nat → Prop} (hp : P (b + a)) : P (bif Nat.beq a 1000 then sb else b + a) := by
  have := ax_cv_ref (b := b) (sb := sb) h
  have e : (bif Nat.beq a 1000 then sb else b + a) = b + a := by
    injection this
  rw [e]; exact hp
end
