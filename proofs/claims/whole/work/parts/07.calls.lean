/-! calls: a method's contract is what the pure machine says of it -/
def ax_sz (k : Nat) : Nat := match ax_sh k with
  | .inl ci => (ax_kdl.getD ci []).length
  | .inr q => q.2
def ax_sl : Nat → Nat
  | 0 => 0
  | n + 1 => ax_sl n + ax_sz n
theorem ax_sl_mono {a b : Nat} (h : a ≤ b) : ax_sl a ≤ ax_sl b := by
  induction b with
  | zero => rw [Nat.le_zero.mp h]; exact Nat.le_refl _
  | succ n ih =>
    rcases Nat.lt_or_ge a (n + 1) with h1 | h1
    · exact Nat.le_trans (ih (by omega)) (by show ax_sl n ≤ ax_sl n + ax_sz n; omega)
    · rw [show a = n + 1 by omega]; exact Nat.le_refl _
def ax_ws (ν : Nat) : List Jvm.Cond := Jvm.Cond.code (ax_md ν).1 (ax_md ν).2.1 (ax_md ν).2.2.1 (ax_md ν).2.2.2.1 :: ax_tb
def ax_rm (d mc ms : Nat) : Room := { frames := d, cells := mc, slots := ms, locals := 100 * d }
def ax_Pc (D : va_G) (cA : Nat → ClassId) (b sb : Nat) (ph : Bool) (args : List Value) (σ : ax_S) : Array Value → State → Prop := va_Pc (args.map (ax_cv b sb)) (fun U => ax_wd D cA b ph σ U.heap ∧ ax_K D cA U)
def ax_Qc (D : va_G) (cA : Nat → ClassId) (b sb : Nat) (ph : Bool) (o : ax_O) : Array Value → State → Outcome → State → Prop := fun _ st oc t => (oc = .returned (o.1.map (ax_cv b sb)) ∧ ax_wd D cA b ph o.2 t.heap) ∧ va_F (ax_A b) st t
def ax_Met (l : Launch) (D : va_G) (cA : Nat → ClassId) (b sb : Nat) (ph : Bool) (d ν : Nat) (args : List Value) (σ : ax_S) (o : ax_O) : Prop := Met l (ax_md ν).1 (ax_ws ν) (ax_rm d (o.2.1 - σ.1) (ax_sl o.2.1 - ax_sl σ.1)) (ax_Pc D cA b sb ph args σ) (ax_Qc D cA b sb ph o) (o.2.1 - σ.1) (ax_sl o.2.1 - ax_sl σ.1) (ax_A b)
theorem ax_blind {D : va_G} {cA : Nat → ClassId} {b sb : Nat} {ph : Bool} {args : List Value} {σ : ax_S} : FrameBlind (ax_Pc D cA b sb ph args σ) := fun a U g mk q => ⟨q.1, q.2.1, ax_K.same (u := U) (U := U.calling g mk a) rfl q.2.2⟩
/-- what every method's row of the tables has -/
def ax_NOK (ν : Nat) : Prop := Jvm.Cond.code (ax_md ν).1 (ax_md ν).2.1 (ax_md ν).2.2.1 (ax_md ν).2.2.2.1 ∈ ax_tb ∧ (ax_md ν).2.2.1 ≤ 60 ∧ ((ax_md ν).1.cls ≠ "java/lang/invoke/MethodHandle" ∧ (ax_md ν).1.cls ≠ "java/lang/invoke/VarHandle")
def ax_par (y : MethodName) (n : Nat) : Prop := (parseMethodDescriptor y.desc).map (fun d => d.parameters.length) = some n
theorem ax_good_ws {ν : Nat} (h : ax_NOK ν) : GoodIn ax_tb (ax_ws ν) := by
  intro w hw
  rcases List.mem_cons.mp hw with rfl | hw
  · exact ax_tb_good _ h.1
  · exact ax_tb_good _ hw
theorem ax_good_c {w : Jvm.Cond} {ws : List Jvm.Cond} (h : w ∈ ax_tb) (hs : GoodIn ax_tb ws) : GoodIn ax_tb (w :: ws) := by
  intro v hv
  rcases List.mem_cons.mp hv with rfl | hv
  · exact ax_tb_good _ h
  · exact hs _ hv
section
variable {p : Program} {l : Launch} {e : Env} {R : Room} {s : State} {m : MethodId} {args : Array Value} {below : List Frame} {meth : Method} {c : Code} {H : Heap} {locs : List Loc} {cells slots : Nat} {Q : State → Prop}
variable {cc : ByteArray} {pc : Nat} {ls : Array Slot} {D : va_G} {cA : Nat → ClassId} {b sb : Nat} {ph : Bool} {σ : ax_S} {ow x ν d n : Nat} {H0 : Heap} {o : ax_O} {As rest : List Value} {st0 : List Value}
theorem ax_W_call {mc ms : Nat} {av : Array Value} (hr : va_Run p l e R s m args below meth c H locs cells slots mc ms (F0 m pc ls st0) (rest.map (ax_cv b sb)) (ax_Qc D cA b sb ph o av) (ax_A b)) (hS : va_S (ax_A b) H0 H locs)
    (kk : ∀ (H1 : Heap) (locs1 : List Loc), ax_wd D cA b ph o.2 H1 → va_S (ax_A b) H0 H1 locs1 → W p l e R s m args below meth c H1 locs1 (cells + mc) (slots + ms) Q (F0 m (pc + 3) ls ((o.1.toList ++ rest).map (ax_cv b sb)))) : W p l e R s m args below meth c H locs cells slots Q (F0 m pc ls st0) := by
  intro T hT X
  obtain ⟨v, st₀, t, T', L, h0, X', hL, e1, e2, ⟨⟨hv, hwd⟩, hz, hk⟩, st⟩ := hr T hT X
  have hv : v = o.1.map (ax_cv b sb) := Outcome.returned.inj hv
  rw [h0] at hz hk
  obtain ⟨t2, a1, b1⟩ := kk T'.heap (locs ++ L) (by rw [e1]; exact hwd)
    ⟨Nat.le_trans hS.1 (by rw [e1]; exact hz), fun q h1 h2 => by rw [e1, hk q (Nat.lt_of_lt_of_le h1 hS.1) h2]; exact hS.2.1 q h1 h2, fun q hq => by
      rcases List.mem_append.mp hq with h | h
      · exact hS.2.2 q h
      · exact hL q h⟩ T' rfl X'
  refine ⟨t2, st t2 ?_, b1⟩
  have hl : v.toList ++ rest.map (ax_cv b sb) = (o.1.toList ++ rest).map (ax_cv b sb) := by
    rw [hv, List.map_append]
    cases o.1 <;> rfl
  rw [hl]
  exact a1
theorem ax_cat_map (b sb : Nat) (r : List Value) : ((r.map (ax_cv b sb)).map fun v => v.category) = r.map Value.category := by
  rw [List.map_map]
  exact List.map_congr_left fun v _ => ax_cv_cat b sb v
theorem ax_pre_s {As : List Value} (hK : ax_K D cA s) (hw : ax_wd D cA b ph σ H) : PreS s H (ax_Pc D cA b sb ph As σ) (As.map (ax_cv b sb)) :=
  ⟨ax_blind, fun U hU hW => ⟨rfl, by rw [hU]; exact hw, hK.moved hW⟩⟩
theorem ax_cv_ref {a : Nat} (ha : a < 1000) : ax_cv b sb (.ref a) = .ref (b + a) := by
  have h : Nat.beq a 1000 = false := by
    cases hh : Nat.beq a 1000 with
    | false => rfl
    | true => exact absurd (Nat.eq_of_beq_eq_true hh) (by omega)
  show Value.ref (bif Nat.beq a 1000 then sb else b + a) = _
  rw [h]
  rfl
theorem ax_pre_v {a ci : Nat} {C : String} {T : u_T} {N : Nat} {As : List Value} (hK : ax_K D cA s) (hw : ax_wd D cA b ph σ H) (hsh : ax_sh a = .inl ci) (hc : ax_cl[ci]? = some (C, T, N)) (ha : a < σ.1) (ha2 : a < 1000) : PreV s H C (b + a) (ax_Pc D cA b sb ph (.ref a :: As) σ) (As.map (ax_cv b sb)) := by
  refine ⟨ax_blind, ?_, fun U hU hW => ⟨?_, by rw [hU]; exact hw, hK.moved hW⟩⟩
  · have h0 := hw.2.2 a ha
    unfold ax_ce at h0
    simp only [hsh] at h0
    obtain ⟨r, h1, cell, q1, q2, q3, q4⟩ := h0
    exact ⟨cell, q1, by rw [q3]; rfl, by rw [q2]; exact (hK.1 ci _ hc).2.1⟩
  · rw [List.map_cons, ax_cv_ref ha2]
theorem ax_stk (As rest : List Value) : (As.map (ax_cv b sb)).reverse ++ rest.map (ax_cv b sb) = (As.reverse ++ rest).map (ax_cv b sb) := by
  rw [List.map_append, List.map_reverse]
theorem ax_c_static {y : MethodName} (S : CallFix p m c cc ls.size s args ax_tb (ax_on ow)) (hK : ax_K D cA s) (hw : ax_wd D cA b ph σ H) (hM : ax_Met l D cA b sb ph d ν As σ o) (hN : ax_NOK ν) (hy : (ax_md ν).1 = y) (hpar : ax_par y n) (h0 : Jvm.Cond.methodLink (ax_on ow) x y ∈ ax_tb) (h1 : Jvm.Cond.static y ∈ ax_tb) (h2 : Jvm.Cond.initialized y.cls ∈ ax_tb) (hn : As.length = n) (hsum : (rest.map Value.category).sum ≤ 8) (hdg : decode cc pc = .ok (.invokestatic x, 3)) (hfr : d + 1 ≤ R.frames) (hlo : 100 * (d + 1) ≤ R.locals) (hf : cells + (o.2.1 - σ.1) ≤ R.cells ∧ slots + (ax_sl o.2.1 - ax_sl σ.1) ≤ R.slots) : va_Run p l e R s m args below meth c H locs cells slots (o.2.1 - σ.1) (ax_sl o.2.1 - ax_sl σ.1) (F0 m pc ls ((As.reverse ++ rest).map (ax_cv b sb))) (rest.map (ax_cv b sb)) (ax_Qc D cA b sb ph o (As.map (ax_cv b sb)).toArray) (ax_A b) := by
  subst hy
  exact va_runS S hM (va_cwS n S.2.2.2.2 (ax_good_c h0 (ax_good_c h1 (ax_good_c h2 (ax_good_ws hN)))) rfl rfl rfl ⟨hN.2.2.1, hN.2.2.2, hpar⟩ ⟨hfr, by have := hN.2.1; show 8 + (_ + 11) + 100 * d ≤ _; omega⟩) (ax_pre_s hK hw) rfl (by rw [List.length_map]; exact hn) rfl (ax_stk As rest).symm (by rw [ax_cat_map]; show 2 * 0 + _ ≤ 8; omega) hdg hf
theorem ax_c_virt {y : MethodName} {a ci : Nat} {C : String} {T : u_T} {N : Nat} (S : CallFix p m c cc ls.size s args ax_tb (ax_on ow)) (hK : ax_K D cA s) (hw : ax_wd D cA b ph σ H) (hsh : ax_sh a = .inl ci) (hc : ax_cl[ci]? = some (C, T, N)) (ha : a < σ.1) (ha2 : a < 1000) (hM : ax_Met l D cA b sb ph d ν (.ref a :: As) σ o) (hN : ax_NOK ν) (hy : (ax_md ν).1 = y) (hyC : y.cls = C) (hpar : ax_par y n) (h0 : Jvm.Cond.methodLink (ax_on ow) x y ∈ ax_tb) (h1 : Jvm.Cond.instanceMethod y ∈ ax_tb) (h2 : Jvm.Cond.selects C y y ∈ ax_tb) (h3 : Jvm.Cond.initialized C ∈ ax_tb) (hn : As.length = n) (hsum : (rest.map Value.category).sum ≤ 8) (hdg : decode cc pc = .ok (.invokevirtual x, 3)) (hfr : d + 1 ≤ R.frames) (hlo : 100 * (d + 1) ≤ R.locals) (hf : cells + (o.2.1 - σ.1) ≤ R.cells ∧ slots + (ax_sl o.2.1 - ax_sl σ.1) ≤ R.slots) : va_Run p l e R s m args below meth c H locs cells slots (o.2.1 - σ.1) (ax_sl o.2.1 - ax_sl σ.1) (F0 m pc ls ((As.reverse ++ .ref a :: rest).map (ax_cv b sb))) (rest.map (ax_cv b sb)) (ax_Qc D cA b sb ph o (Value.ref (b + a) :: As.map (ax_cv b sb)).toArray) (ax_A b) := by
  subst hy
  exact va_runV S hM (cwV n S.2.2.2.2 (ax_good_c h0 (ax_good_c h1 (ax_good_c h2 (ax_good_c h3 (ax_good_ws hN))))) rfl rfl rfl ⟨hyC, hN.2.2.1, hN.2.2.2, hpar⟩ ⟨hfr, by have := hN.2.1; show 8 + (_ + 11) + 100 * d ≤ _; omega⟩) (ax_pre_v hK hw hsh hc ha ha2) rfl (by rw [List.length_map]; exact hn) rfl (by rw [← ax_stk, List.map_cons, ax_cv_ref ha2]) (by rw [ax_cat_map]; show 2 * 0 + _ ≤ 8; omega) hdg hf
theorem ax_c_up {z y : MethodName} {a ci : Nat} {C owner : String} {T : u_T} {N : Nat} (S : CallFix p m c cc ls.size s args ax_tb (ax_on ow)) (hK : ax_K D cA s) (hw : ax_wd D cA b ph σ H) (hsh : ax_sh a = .inl ci) (hc : ax_cl[ci]? = some (C, T, N)) (ha : a < σ.1) (ha2 : a < 1000) (hM : ax_Met l D cA b sb ph d ν (.ref a :: As) σ o) (hN : ax_NOK ν) (hy : (ax_md ν).1 = y) (hyz : y = ⟨owner, z.name, z.desc⟩ ∨ va_Nw (.declares ⟨owner, z.name, z.desc⟩) s) (hpar : ax_par z n) (hown : owner ≠ "java/lang/invoke/MethodHandle" ∧ owner ≠ "java/lang/invoke/VarHandle") (h0 : Jvm.Cond.methodLink (ax_on ow) x z ∈ ax_tb) (h1 : Jvm.Cond.sameMethod z.cls owner z.name z.desc ∈ ax_tb) (h2 : Jvm.Cond.selects C z y ∈ ax_tb) (h3 : Jvm.Cond.instanceMethod y ∈ ax_tb) (h4 : Jvm.Cond.initialized y.cls ∈ ax_tb) (hn : As.length = n) (hsum : (rest.map Value.category).sum ≤ 8) (hdg : decode cc pc = .ok (.invokevirtual x, 3)) (hfr : d + 1 ≤ R.frames) (hlo : 100 * (d + 1) ≤ R.locals) (hf : cells + (o.2.1 - σ.1) ≤ R.cells ∧ slots + (ax_sl o.2.1 - ax_sl σ.1) ≤ R.slots) : va_Run p l e R s m args below meth c H locs cells slots (o.2.1 - σ.1) (ax_sl o.2.1 - ax_sl σ.1) (F0 m pc ls ((As.reverse ++ .ref a :: rest).map (ax_cv b sb))) (rest.map (ax_cv b sb)) (ax_Qc D cA b sb ph o (Value.ref (b + a) :: As.map (ax_cv b sb)).toArray) (ax_A b) := by
  subst hy
  have hG : GoodIn ax_tb (va_wsU (ax_on ow) x C owner z (ax_md ν).1 (ax_ws ν)) := ax_good_c h0 (ax_good_c h1 (ax_good_c h2 (ax_good_c h3 (ax_good_c h4 (ax_good_ws hN)))))
  have hR : (ax_rm d (o.2.1 - σ.1) (ax_sl o.2.1 - ax_sl σ.1)).frames + 1 ≤ R.frames ∧ 8 + ((ax_md ν).2.2.1 + 11) + (ax_rm d (o.2.1 - σ.1) (ax_sl o.2.1 - ax_sl σ.1)).locals ≤ R.locals := ⟨hfr, by have := hN.2.1; show 8 + (_ + 11) + 100 * d ≤ _; omega⟩
  have cw : va_CU R s args (ax_on ow) C owner x z (ax_md ν).1 (ax_md ν).2.1 (ax_md ν).2.2.1 (ax_md ν).2.2.2.1 (ax_ws ν) (ax_rm d (o.2.1 - σ.1) (ax_sl o.2.1 - ax_sl σ.1)) (o.2.1 - σ.1) (ax_sl o.2.1 - ax_sl σ.1) n := by
    rcases hyz with h | h
    · exact va_cwU n S.2.2.2.2 hG rfl rfl rfl h ⟨hown.1, hown.2, hpar⟩ hR
    · exact va_cwA n S.2.2.2.2 hG rfl rfl rfl h ⟨hown.1, hown.2, hpar⟩ hR
  exact va_runU S hM cw (ax_pre_v hK hw hsh hc ha ha2) rfl (by rw [List.length_map]; exact hn) rfl (by rw [← ax_stk, List.map_cons, ax_cv_ref ha2]) (by rw [ax_cat_map]; show 2 * 0 + _ ≤ 8; omega) hdg hf
theorem ax_c_init {y : MethodName} {a : Nat} (S : CallFix p m c cc ls.size s args ax_tb (ax_on ow)) (hK : ax_K D cA s) (hw : ax_wd D cA b ph σ H) (ha2 : a < 1000) (hM : ax_Met l D cA b sb ph d ν (.ref a :: As) σ o) (hN : ax_NOK ν) (hv : (ax_md ν).2.2.2.1 = none) (hy : (ax_md ν).1 = y) (hyi : y.name = "<init>") (hpar : ax_par y n) (h0 : Jvm.Cond.methodLink (ax_on ow) x y ∈ ax_tb) (h1 : Jvm.Cond.instanceMethod y ∈ ax_tb) (h2 : Jvm.Cond.initialized y.cls ∈ ax_tb) (hn : As.length = n) (hsum : (rest.map Value.category).sum ≤ 8) (hdg : decode cc pc = .ok (.invokespecial x, 3)) (hfr : d + 1 ≤ R.frames) (hlo : 100 * (d + 1) ≤ R.locals) (hf : cells + (o.2.1 - σ.1) ≤ R.cells ∧ slots + (ax_sl o.2.1 - ax_sl σ.1) ≤ R.slots) : va_Run p l e R s m args below meth c H locs cells slots (o.2.1 - σ.1) (ax_sl o.2.1 - ax_sl σ.1) (F0 m pc ls ((As.reverse ++ .ref a :: rest).map (ax_cv b sb))) (rest.map (ax_cv b sb)) (ax_Qc D cA b sb ph o (Value.ref (b + a) :: As.map (ax_cv b sb)).toArray) (ax_A b) := by
  subst hy
  have hpre : PreS s H (ax_Pc D cA b sb ph (.ref a :: As) σ) (Value.ref (b + a) :: As.map (ax_cv b sb)) := by
    rw [← ax_cv_ref (sb := sb) ha2]
    exact ax_pre_s (As := .ref a :: As) hK hw
  exact va_runI S hM (cwI n S.2.2.2.2 (ax_good_ws hN) (by unfold ax_ws; rw [hv]) rfl rfl (S.2.2.2.2 _ h2) (S.2.2.2.2 _ h0) (S.2.2.2.2 _ h1) hyi ⟨hN.2.2.1, hN.2.2.2, hpar⟩ ⟨hfr, by have := hN.2.1; show 8 + ((ax_md ν).2.2.1 + 11) + 100 * d ≤ _; omega⟩) hpre rfl (by rw [List.length_map]; exact hn) rfl (by rw [← ax_stk, List.map_cons, ax_cv_ref ha2]) (by rw [ax_cat_map]; show 2 * 0 + _ ≤ 8; omega) hdg hf
theorem ax_c_nestS {y : MethodName} {host : String} (S : CallFix p m c cc ls.size s args ax_tb (ax_on ow)) (hK : ax_K D cA s) (hw : ax_wd D cA b ph σ H) (hM : ax_Met l D cA b sb ph d ν As σ o) (hN : ax_NOK ν) (hy : (ax_md ν).1 = y) (hpar : ax_par y n) (h0 : (ax_on ow, x, y, host) ∈ ax_nl) (h1 : Jvm.Cond.static y ∈ ax_tb) (h2 : Jvm.Cond.initialized y.cls ∈ ax_tb) (hn : As.length = n) (hsum : (rest.map Value.category).sum ≤ 8) (hdg : decode cc pc = .ok (.invokestatic x, 3)) (hfr : d + 1 ≤ R.frames) (hlo : 100 * (d + 1) ≤ R.locals) (hf : cells + (o.2.1 - σ.1) ≤ R.cells ∧ slots + (ax_sl o.2.1 - ax_sl σ.1) ≤ R.slots) : va_Run p l e R s m args below meth c H locs cells slots (o.2.1 - σ.1) (ax_sl o.2.1 - ax_sl σ.1) (F0 m pc ls ((As.reverse ++ rest).map (ax_cv b sb))) (rest.map (ax_cv b sb)) (ax_Qc D cA b sb ph o (As.map (ax_cv b sb)).toArray) (ax_A b) := by
  subst hy
  exact va_runSN S hM ⟨va_cnB n S.2.2.2.2 (ax_good_ws hN) rfl rfl rfl (hK.2.2.1 _ h0) (S.2.2.2.2 _ h2) ⟨hN.2.2.1, hN.2.2.2, hpar⟩ ⟨hfr, by have := hN.2.1; show 8 + (_ + 11) + 100 * d ≤ _; omega⟩, S.2.2.2.2 _ h1, trivial⟩ (ax_pre_s hK hw) rfl (by rw [List.length_map]; exact hn) rfl (ax_stk As rest).symm (by rw [ax_cat_map]; show 2 * 0 + _ ≤ 8; omega) hdg hf
theorem ax_c_nestI {y : MethodName} {host : String} {a : Nat} (S : CallFix p m c cc ls.size s args ax_tb (ax_on ow)) (hK : ax_K D cA s) (hw : ax_wd D cA b ph σ H) (ha2 : a < 1000) (hM : ax_Met l D cA b sb ph d ν (.ref a :: As) σ o) (hN : ax_NOK ν) (hv : (ax_md ν).2.2.2.1 = none) (hy : (ax_md ν).1 = y) (hyi : y.name = "<init>") (hpar : ax_par y n) (h0 : (ax_on ow, x, y, host) ∈ ax_nl) (h1 : Jvm.Cond.instanceMethod y ∈ ax_tb) (h2 : Jvm.Cond.initialized y.cls ∈ ax_tb) (hn : As.length = n) (hsum : (rest.map Value.category).sum ≤ 8) (hdg : decode cc pc = .ok (.invokespecial x, 3)) (hfr : d + 1 ≤ R.frames) (hlo : 100 * (d + 1) ≤ R.locals) (hf : cells + (o.2.1 - σ.1) ≤ R.cells ∧ slots + (ax_sl o.2.1 - ax_sl σ.1) ≤ R.slots) : va_Run p l e R s m args below meth c H locs cells slots (o.2.1 - σ.1) (ax_sl o.2.1 - ax_sl σ.1) (F0 m pc ls ((As.reverse ++ .ref a :: rest).map (ax_cv b sb))) (rest.map (ax_cv b sb)) (ax_Qc D cA b sb ph o (Value.ref (b + a) :: As.map (ax_cv b sb)).toArray) (ax_A b) := by
  subst hy
  have hpre : PreS s H (ax_Pc D cA b sb ph (.ref a :: As) σ) (Value.ref (b + a) :: As.map (ax_cv b sb)) := by
    rw [← ax_cv_ref (sb := sb) ha2]
    exact ax_pre_s (As := .ref a :: As) hK hw
  have hcn := va_cnB n S.2.2.2.2 (ax_good_ws hN) (bytes := (ax_md ν).2.1) (maxL := (ax_md ν).2.2.1) (ret := none) (by unfold ax_ws; rw [hv]) (rm := ax_rm d (o.2.1 - σ.1) (ax_sl o.2.1 - ax_sl σ.1)) rfl rfl (hK.2.2.1 _ h0) (S.2.2.2.2 _ h2) ⟨hN.2.2.1, hN.2.2.2, hpar⟩ (R := R) ⟨hfr, by have := hN.2.1; show 8 + ((ax_md ν).2.2.1 + 11) + 100 * d ≤ _; omega⟩
  exact va_runIN S hM ⟨hcn, hyi, S.2.2.2.2 _ h1⟩ hpre rfl (by rw [List.length_map]; exact hn) rfl (by rw [← ax_stk, List.map_cons, ax_cv_ref ha2]) (by rw [ax_cat_map]; show 2 * 0 + _ ≤ 8; omega) hdg hf
end
