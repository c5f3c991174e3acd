/-! a static method that is inherited, called by the inheriting class's name (canBegin's isPersonLetter). The library's own row for it stands in a part that rounds don't read (Shelf42), so it is proved here over what they do read. -/
section
variable {Q : Unit → Pre} {E : CtlPost} {e : Env} {d : Bool} {acts : List Action} {s s₀ : State} {f : JFrame}
theorem ax_su_wp {index ci n c : Nat} {m : MethodId} {dk ck : Class} {cf : ClassFile} {name desc : String} (hs : s.topJava?.isSome) (hp : e.platform.polymorphicOnlyByInvokevirtual = true) (hW : s₀.WarmedH s.vm) (hE : s₀.MethodEntryUp e s.vm f.method.cls index c m ci) (h1 : s₀.vm.classes[f.method.cls]? = some dk) (h2 : dk.cf = some cf) (h3 : cf.constantPool[index]? = some (.methodref ci n)) (h4 : cf.constantPool.nameAndType? n = some (name, desc)) (hck : s₀.vm.classes[c]? = some ck) (hnone : (ck.methods.any fun x => x.name == name && !x.isStatic && signaturePolymorphic ck x) = false) :
    wp (Op.invokestatic.sem index) Q E e d acts (s.setTop f) ↔ wp (Op.invokestatic.sem index) Q E e d acts ((s.setVm (s.vm.calledUp f.method.cls ci index c m)).setTop f) := by
  obtain ⟨hgc, hrc, hW₁, hgm⟩ := hE.classFirst
  obtain ⟨k₀, hk₀, he₀⟩ := hW.alike.2.2 _ _ h1
  obtain ⟨k₂, hk₂, he₂⟩ := hE.warmed.alike.2.2 _ _ h1
  obtain ⟨c₁, hc₁, hec₁⟩ := hW₁.alike.2.2 _ _ hck
  obtain ⟨c₂, hc₂, hec₂⟩ := hE.warmed.alike.2.2 _ _ hck
  have h3' : cf.constantPool[index]? = some (if false then .interfaceMethodref ci n else .methodref ci n) := h3
  have a₀ := _root_.Jvm.memberRef_ask_via (e := e) hk₀ (by rw [he₀]; exact h2) h3' h4
  have a₂ := _root_.Jvm.memberRef_ask_via (e := e) hk₂ (by rw [he₂]; exact h2) h3' h4
  have n₁ : (c₁.methods.any fun x => x.name == name && !x.isStatic && signaturePolymorphic c₁ x) = false := by rw [hec₁]; exact hnone
  have n₂ : (c₂.methods.any fun x => x.name == name && !x.isStatic && signaturePolymorphic c₂ x) = false := by rw [hec₂]; exact hnone
  have t₁ : (s.setVm (s.vm.noted f.method.cls ci (.cls c))).topJava?.isSome := hs
  have t₂ : (s.setVm (s.vm.calledUp f.method.cls ci index c m)).topJava?.isSome := hs
  have rL : ∀ {Q' : ClassId → Pre} {d' : Bool} {acts' : List Action}, wp (Jvm.resolveClassAt ci) Q' E e d' acts' (s.setTop f) ↔ Q' c d' acts' ((s.setVm (s.vm.noted f.method.cls ci (.cls c))).setTop f) := _root_.Jvm.W.resolveClassAt_links (t := s.setTop f) (State.method?_setTop f hs) hgc
  have rM : ∀ {Q' : MethodId → Pre} {d' : Bool} {acts' : List Action}, wp (Jvm.resolveMethodAt index) Q' E e d' acts' ((s.setVm (s.vm.noted f.method.cls ci (.cls c))).setTop f) ↔ Q' m d' acts' ((s.setVm (s.vm.calledUp f.method.cls ci index c m)).setTop f) := _root_.Jvm.W.resolveMethodAt_links (t := (s.setVm (s.vm.noted f.method.cls ci (.cls c))).setTop f) (State.method?_setTop f t₁) hgm
  simp [Op.invokestatic.sem, hp, Seam.memberRefOf, State.method?_setTop f hs, State.method?_setTop f t₂, a₀, a₂, rL, _root_.Jvm.W.resolveClassAt_ready (s := (s.setVm (s.vm.calledUp f.method.cls ci index c m)).setTop f) (State.method?_setTop f t₂) hE.classReady, hc₁, hc₂, n₁, n₂, rM, _root_.Jvm.W.resolveMethodAt_ready (s := (s.setVm (s.vm.calledUp f.method.cls ci index c m)).setTop f) (State.method?_setTop f t₂) hE.ready, -Array.any_eq_true]
end
section
variable {p : Program} {l : Launch} {e : Env} {R : Room} {s : State} {m : MethodId} {args : Array Value} {below : List Frame} {meth : Method} {c : Code} {T : State} {locs : List Loc} {cells slots : Nat}
theorem ax_su_step (X : Stand p l e R s m args below meth c T locs cells slots) (hexec : p.tables.exec = Jvm.exec) {own owner : String} {index : Nat} {x : MethodName} (hown : s.vm.findClass own = some m.cls) (hlink : (Jvm.Cond.methodLink own index x).before args s = true) (hsame : (Jvm.Cond.sameMethod x.cls owner x.name x.desc).before args s = true) (howner : owner ≠ "java/lang/invoke/MethodHandle" ∧ owner ≠ "java/lang/invoke/VarHandle")
    {m' : MethodId} {meth' : Method} {k' : Class} (hn : s.methodNamed? ⟨owner, x.name, x.desc⟩ = some m') (hm' : s.vm.method? m' = some meth') (hstatic : meth'.isStatic = true) (hk' : s.vm.classes[m'.cls]? = some k') (hinit : k'.init = .initialized)
    {g : JFrame} (hg : g.method = m) {argsL rest : List Value} (hlen : argsL.length = meth'.sig.parameters.length) (hstack : g.stack = argsL.reverse ++ rest) (hdg : decode c.code g.pc = .ok (.invokestatic index, 3)) :
    ∃ vm', Stand p l e R s m args below meth c (T.setVm vm') locs cells slots ∧ ∀ target, (∀ acts, Steps p.tables e below (doInvoke e ((T.setVm vm').setTop { g with stack := rest }) acts m' argsL.toArray).1 target) → Steps p.tables e below (T.setTop g) target := by
  have pl : e.platform.magicAccessors = ({} : Platform).magicAccessors := by rw [X.admits.platform]
  have pv : e.platform.polymorphicOnlyByInvokevirtual = true := by rw [X.admits.platform]
  obtain ⟨cn, ck, r1, hcn, hck, hni, hf, hn1⟩ := Cond.sameMethod_found hsame
  cases hn.symm.trans hn1
  obtain ⟨ci, hl, hright⟩ := Cond.methodLink_specUp hown hcn hck hni hf hlink e.platform pl (by rw [X.admits.platform])
  have hE : s.MethodEntryUp e T.vm m.cls index cn m' ci := State.methodEntryUp X.warmed hl hright
  obtain ⟨kx, hkx, hnx⟩ := className_of_methodNamed hn
  cases hk'.symm.trans hkx
  obtain ⟨dk, cfile, nt, mname, mdesc, ck', _, _, hd, hcf, hcp, hnt, -, -, hck', -, hnopoly, -⟩ := hl.here
  cases hck.symm.trans hck'
  have al := hE.warmed.alike
  obtain ⟨dk₂, hdk₂, hed₂⟩ := al.2.2 _ _ hd
  obtain ⟨k₂, hk₂, he₂⟩ := al.2.2 _ _ hk'
  obtain ⟨ck₂, hck₂, hec₂⟩ := al.2.2 _ _ hck
  have hnone : (ck.methods.any fun y => y.name == mname && !y.isStatic && signaturePolymorphic ck y) = false := by simp [hnopoly]
  have hnone₂ : (ck₂.methods.any fun y => y.name == mname && !y.isStatic && signaturePolymorphic ck₂ y) = false := by rw [hec₂]; exact hnone
  have hcp' : cfile.constantPool[index]? = some (if false then .interfaceMethodref ci nt else .methodref ci nt) := hcp
  refine ⟨T.vm.calledUp m.cls ci index cn m', X.noted hE.warmed, fun target hrest => ?_⟩
  subst hg
  jvm_step X.here [hexec, hdg, ax_su_wp (e := e) (s := T) (s₀ := s) (f := g) X.here.top pv X.warmed hE hd hcf hcp hnt hck hnone,
    Op.invokestatic.wp_ready (e := e) (s := T.setVm (T.vm.calledUp g.method.cls ci index cn m')) (k := k₂) (meth := meth') (m := m') (args := argsL) (rest := rest) (f := g)
      X.here.top ⟨ci, mname, mdesc, false, cn, ck₂, _root_.Jvm.memberRef_ask_via (e := e) hdk₂ (by rw [hed₂]; exact hcf) hcp' hnt, hE.classReady, hck₂, hnone₂⟩ hE.ready hk₂
      (by show (T.vm.calledUp g.method.cls ci index cn m').method? m' = some meth'; rw [al.method?]; exact hm')
      (by rw [he₂]; show signaturePolymorphic k' meth' = false; simp [signaturePolymorphic, hnx, howner.1, howner.2]) hstatic (by rw [he₂]; exact hinit) hlen hstack]
  exact fun acts => hrest _
end
section
variable {p : Program} {l : Launch} {e : Env} {R : Room} {s : State} {m : MethodId} {args : Array Value} {below : List Frame} {meth : Method} {c : Code} {H : Heap} {locs : List Loc} {cells slots : Nat} {Q : State → Prop}
variable {cc : ByteArray} {pc : Nat} {ls : Array Slot} {D : va_G} {cA : Nat → ClassId} {b sb : Nat} {ph : Bool} {σ : ax_S} {ow x ν d n : Nat} {H0 : Heap} {o : ax_O} {As rest : List Value} {st0 : List Value}
theorem ax_c_su {z : MethodName} {owner : String} (S : CallFix p m c cc ls.size s args ax_tb (ax_on ow)) (hK : ax_K D cA s) (hw : ax_wd D cA b ph σ H) (hM : ax_Met l D cA b sb ph d ν As σ o) (hN : ax_NOK ν) (hy : (ax_md ν).1 = ⟨owner, z.name, z.desc⟩) (hpar : ax_par z n) (hown2 : owner ≠ "java/lang/invoke/MethodHandle" ∧ owner ≠ "java/lang/invoke/VarHandle") (h0 : Jvm.Cond.methodLink (ax_on ow) x z ∈ ax_tb) (h1 : Jvm.Cond.sameMethod z.cls owner z.name z.desc ∈ ax_tb) (h2 : Jvm.Cond.static ⟨owner, z.name, z.desc⟩ ∈ ax_tb) (h3 : Jvm.Cond.initialized owner ∈ ax_tb) (hn : As.length = n) (hsum : (rest.map Value.category).sum ≤ 8) (hdg : decode cc pc = .ok (.invokestatic x, 3)) (hfr : d + 1 ≤ R.frames) (hlo : 100 * (d + 1) ≤ R.locals) (hf : cells + (o.2.1 - σ.1) ≤ R.cells ∧ slots + (ax_sl o.2.1 - ax_sl σ.1) ≤ R.slots) : va_Run p l e R s m args below meth c H locs cells slots (o.2.1 - σ.1) (ax_sl o.2.1 - ax_sl σ.1) (F0 m pc ls ((As.reverse ++ rest).map (ax_cv b sb))) (rest.map (ax_cv b sb)) (ax_Qc D cA b sb ph o (As.map (ax_cv b sb)).toArray) (ax_A b) := by
  obtain ⟨hx, hb, hml, ho, hts⟩ := S
  have hM2 : Met l ⟨owner, z.name, z.desc⟩ (ax_ws ν) (ax_rm d (o.2.1 - σ.1) (ax_sl o.2.1 - ax_sl σ.1)) (ax_Pc D cA b sb ph As σ) (ax_Qc D cA b sb ph o) (o.2.1 - σ.1) (ax_sl o.2.1 - ax_sl σ.1) (ax_A b) := by
    rw [← hy]; exact hM
  have hcw : Jvm.Cond.code ⟨owner, z.name, z.desc⟩ (ax_md ν).2.1 (ax_md ν).2.2.1 (ax_md ν).2.2.2.1 ∈ ax_tb := by
    rw [← hy]; exact hN.1
  have hcode := hts _ hcw
  have hcm : Jvm.Cond.code ⟨owner, z.name, z.desc⟩ (ax_md ν).2.1 (ax_md ν).2.2.1 (ax_md ν).2.2.2.1 ∈ ax_ws ν := by
    unfold ax_ws
    rw [hy]
    exact List.mem_cons_self
  have hbk : Back l R p e below s args ⟨owner, z.name, z.desc⟩ 3 8 (PreOf R (o.2.1 - σ.1) (ax_sl o.2.1 - ax_sl σ.1) (ax_Pc D cA b sb ph As σ)) (PostOf (ax_Qc D cA b sb ph o) (o.2.1 - σ.1) (ax_sl o.2.1 - ax_sl σ.1) (ax_A b)) :=
    back_of hM2 ax_blind rfl rfl hfr (by have := hN.2.1; show 8 + ((ax_md ν).2.2.1 + 11) + 100 * d ≤ _; omega) (pay_in hts (ax_good_ws hN)) hcm (fun a' U hW => word_at hW (Or.inl (by first | rfl | simp [Cond.onTables, Cond.keeps, Cond.steady])) (hts _ h3))
  intro T hT X
  obtain ⟨mk, hnamed⟩ := Cond.code_named hcode
  obtain ⟨methM, cM, hmethM, -, -, -, -, -, -, hsigM⟩ := Cond.code_spec hnamed hcode
  have hstatic : methM.isStatic = true := Cond.static_spec hnamed hmethM (hts _ h2)
  obtain ⟨kP, hkP, -⟩ := className_of_methodNamed hnamed
  have hinitP : kP.init = .initialized := Cond.initialized_spec (findClass_of_methodNamed hnamed) hkP (hts _ h3)
  have hlen : (As.map (ax_cv b sb)).length = methM.sig.parameters.length := by
    rw [List.length_map, hn]
    have h9 := hpar
    unfold ax_par at h9
    rw [hsigM] at h9
    exact (Option.some.inj h9).symm
  obtain ⟨vm₁, X₁, hstep₁⟩ := ax_su_step X hx ho (hts _ h0) (hts _ h1) hown2 hnamed hmethM hstatic hkP hinitP (g := F0 m pc ls ((As.reverse ++ rest).map (ax_cv b sb))) rfl (argsL := As.map (ax_cv b sb)) (rest := rest.map (ax_cv b sb)) hlen (ax_stk As rest).symm (by rw [hb]; exact hdg)
  obtain ⟨v, ⟨U', l2, c2, s2⟩, X', ⟨g', mk2, t, L, e1, e2, hq, k1, kL, k2, k3⟩, hsteps⟩ := hbk m meth c ⟨T.setVm vm₁, locs, cells, slots⟩ (F0 m pc ls (rest.map (ax_cv b sb))) (.invokestatic x) mk (As.map (ax_cv b sb)).toArray X₁ rfl hml.symm (by rw [hb]; exact hdg) (by rw [ax_cat_map]; show 2 * 0 + _ ≤ 8; omega) (X₁.named hnamed) ⟨hf.1, hf.2, (ax_pre_s hK hw).2 _ hT X₁.warmed⟩
  dsimp only [Pt.U, Pt.locs, Pt.cells, Pt.slots] at X' e1 e2 k1 k2 k3 hsteps
  subst k1; subst k2; subst k3
  exact ⟨v, (T.setVm vm₁).calling g' mk2 (As.map (ax_cv b sb)).toArray, t, U', L, hT, X', kL, e1, e2, hq, fun target h => hstep₁ _ fun acts => by rw [doInvoke_state]; exact hsteps.trans h⟩
end
