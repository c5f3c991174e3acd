/-! cells that are made, arrays that are copied -/
section
variable {p : Program} {l : Launch} {e : Env} {R : Room} {s : State} {m : MethodId} {args : Array Value} {below : List Frame} {meth : Method} {c : Code} {H : Heap} {locs : List Loc} {cells slots : Nat} {Q : State → Prop}
variable {cc : ByteArray} {pc : Nat} {ls : Array Slot} {rest : List Value} {D : va_G} {cA : Nat → ClassId} {b : Nat} {ph : Bool} {σ : ax_S} {a o x ci j : Nat} {H0 : Heap}
theorem ax_wd_nc {H1 : Heap} (hw : ax_wd D cA b false σ H) (z1 : H1.size = b + σ.1 + 1) (o1 : ∀ q, q < b + σ.1 → H1[q]? = H[q]?) (hs : ax_ce D cA b false (ax_nc σ) H1 σ.1) : ax_wd D cA b false (ax_nc σ) H1 := by
  refine ⟨by rw [z1]; show b + σ.1 + 1 = b + (σ.1 + 1); omega, (fun h => by cases h), fun k hk => ?_⟩
  have hk : k < σ.1 + 1 := hk
  by_cases hka : k = σ.1
  · rw [hka]; exact hs
  · exact ax_ce_same (hw.2.2 k (by omega)) (ax_up_ne hka) (ax_up_ne hka) (o1 _ (by omega))
theorem ax_W_new (hx : p.tables.exec = Jvm.exec) (hb : c.code = cc) (hts : ∀ w ∈ ax_tb, w.before args s = true) (hown : s.vm.findClass (ax_on o) = some m.cls) (hK : ax_K D cA s) {C : String} {T : u_T} {N : Nat} (hcl : Jvm.Cond.classLink (ax_on o) x C ∈ ax_tb) (hini : Jvm.Cond.initialized C ∈ ax_tb) (hc : ax_cl[ci]? = some (C, T, N)) (hC : ax_COK ci C T N) (hsh : ax_sh σ.1 = .inl ci) (hw : ax_wd D cA b false σ H) (hS : va_S (ax_A b) H0 H locs) (hcells : cells + 1 ≤ R.cells) (hslots : slots + N ≤ R.slots) (hdg : decode cc pc = .ok (.new x, 3))
    (kk : ∀ (H1 : Heap), ax_wd D cA b false (ax_nc σ) H1 → va_S (ax_A b) H0 H1 locs → W p l e R s m args below meth c H1 locs (cells + 1) (slots + N) Q (F0 m (pc + 3) ls (.ref (b + σ.1) :: rest))) : W p l e R s m args below meth c H locs cells slots Q (F0 m pc ls rest) := by
  obtain ⟨hin, hty, hnm, hkt, hins⟩ := hC
  have hKn := hK.1 ci _ hc
  refine W.newcK hx hb hown (hts _ hcl) (hts _ hins) (hts _ hini) rfl hdg hcells hslots hKn.2.1 hw.1 fun H1 kC hkC e1 z1 o1 => ?_
  refine kk H1 (ax_wd_nc hw z1 o1 ?_) ⟨Nat.le_trans hS.1 (by rw [hw.1, z1]; omega), fun q h1 h2 => (o1 q (by have := hS.1; rw [hw.1] at this; omega)).trans (hS.2.1 q h1 h2), hS.2.2⟩
  unfold ax_ce
  simp only [hsh]
  refine ⟨_, hc, (u_born (ax_ty ci) hts hin hKn hkC e1 hty).to fun i hi => ?_⟩
  have hk := hkt i hi
  have hz : (ax_nc σ).2.1 σ.1 i = 0 := by simp [ax_nc, ax_up_eq]
  unfold ax_fv
  match hkd : ax_kd ci i, hk with
  | 0, hk => rw [show ax_ty ci i = .int from hk]; simp [hz, defaultValue]
  | 1, hk => rw [show ax_ty ci i = .boolean from hk]; simp [hz, defaultValue]
  | 2, hk => rcases hk with ⟨n, h⟩ | ⟨t, h⟩ <;> rw [h] <;> simp [hz, defaultValue]
  | k + 3, hk => exact hk.elim
theorem ax_W_newa (hx : p.tables.exec = Jvm.exec) (hb : c.code = cc) (hK : ax_K D cA s) {t k : Nat} {atype : ArrayType} (ht : t < 3) (hty : newarray.typeOf atype = ax_tya t) (harr : (Jvm.Cond.arrayClass (ax_tya t)).before args s = true) (hsh : ax_sh σ.1 = .inr (t, k)) (hk : k ≤ 4096) (hw : ax_wd D cA b false σ H) (hS : va_S (ax_A b) H0 H locs) (hcells : cells + 1 ≤ R.cells) (hslots : slots + k ≤ R.slots) (hdg : decode cc pc = .ok (.newarray atype, 2))
    (kk : ∀ (H1 : Heap), ax_wd D cA b false (ax_nc σ) H1 → va_S (ax_A b) H0 H1 locs → W p l e R s m args below meth c H1 locs (cells + 1) (slots + k) Q (F0 m (pc + 2) ls (.ref (b + σ.1) :: rest))) : W p l e R s m args below meth c H locs cells slots Q (F0 m pc ls (.int (nI k) :: rest)) := by
  have hb8 : componentBytes (ax_tya t) ≤ 8 := by
    match t, ht with
    | 0, _ => decide
    | 1, _ => decide
    | 2, _ => decide
  refine va_newaK hx hb (by rw [hty]; exact harr) rfl hdg rfl (nI_pos (by omega)) (nI_clamp (by omega)) (by rw [hty]; have := Nat.mul_le_mul hk hb8; omega) hcells hslots hw.1 fun H1 cA' e1 z1 o1 hAr hNm => ?_
  have hcA : cA' = cA t := by
    have h2 := (hK.2.1 t ht).2
    rw [hty] at hNm
    exact Option.some.inj (hNm.symm.trans h2)
  subst hcA
  refine kk H1 (ax_wd_nc hw z1 o1 ?_) ⟨Nat.le_trans hS.1 (by rw [hw.1, z1]; omega), fun q h1 h2 => (o1 q (by have := hS.1; rw [hw.1] at this; omega)).trans (hS.2.1 q h1 h2), hS.2.2⟩
  unfold ax_ce
  simp only [hsh]
  rw [e1, hty]
  have hz : (ax_nc σ).2.1 σ.1 = fun _ => 0 := by simp [ax_nc, ax_up_eq]
  have hz2 : (ax_nc σ).2.2 σ.1 = fun _ => 0 := by simp [ax_nc, ax_up_eq]
  match t, ht with
  | 0, _ => simp only [ax_ar, hz]; rfl
  | 1, _ => simp only [ax_ar, hz]; rfl
  | 2, _ => simp only [ax_ar, hz2]; rfl
theorem ax_W_copy (hx : p.tables.exec = Jvm.exec) (hb : c.code = cc) (hml : c.maxLocals = ls.size) (hts : ∀ w ∈ ax_tb, w.before args s = true) (hown : s.vm.findClass (ax_on o) = some m.cls) (hK : ax_K D cA s) (hlink : Jvm.Cond.methodLink (ax_on o) x arraycopyName ∈ ax_tb) (hnat : Jvm.Cond.native arraycopyName ∈ ax_tb) (hstat : Jvm.Cond.static arraycopyName ∈ ax_tb) (hini : Jvm.Cond.initialized "java/lang/System" ∈ ax_tb)
    {a0 n0 n1 : Nat} (hsh0 : ax_sh a0 = .inr (0, n0)) (hsh : ax_sh a = .inr (0, n1)) (hw : ax_wd D cA b ph σ H) (hS : va_S (ax_A b) H0 H locs) (ha0 : a0 < σ.1) (ha : a < σ.1) {sp dp n : Int32} (h1 : ¬ sp < 0) (h2 : ¬ dp < 0) (h3 : ¬ n < 0) (h4 : sp.toNatClampNeg + n.toNatClampNeg ≤ n0) (h5 : dp.toNatClampNeg + n.toNatClampNeg ≤ n1)
    (hframes : 1 ≤ R.frames) (hlocals : (rest.map fun v => v.category).sum + 18 ≤ R.locals) (hdg : decode cc pc = .ok (.invokestatic x, 3))
    (kk : ∀ (H1 : Heap) (locs1 : List Loc), ax_wd D cA b ph (ax_sA σ a (va_cpy (σ.2.1 a0) (σ.2.1 a) sp.toNatClampNeg dp.toNatClampNeg n.toNatClampNeg)) H1 → va_S (ax_A b) H0 H1 locs1 → W p l e R s m args below meth c H1 locs1 cells slots Q (F0 m (pc + 3) ls rest)) : W p l e R s m args below meth c H locs cells slots Q (F0 m pc ls (.int n :: .int dp :: .ref (b + a) :: .int sp :: .ref (b + a0) :: rest)) := by
  have nn : ∀ z : Int32, ¬ z < 0 → z.toInt = (z.toNatClampNeg : Int) := by
    intro z hz
    have hz0 : (0 : Int) ≤ z.toInt := by
      have := Int32.not_lt.mp hz
      simpa using Int32.le_iff_toInt_le.mp this
    show z.toInt = ((z.toInt.toNat : Nat) : Int)
    omega
  intro T hT X
  have hc0 : H[b + a0]? = some (vp_cell (cA 0) (n0, .inl (σ.2.1 a0))) := ax_cell_at hsh0 hw ha0
  have hc1 : H[b + a]? = some (vp_cell (cA 0) (n1, .inl (σ.2.1 a))) := ax_cell_at hsh hw ha
  obtain ⟨-, k0, hk0, cm0, hkk0⟩ := (hK.2.1 0 (by decide)).1 n0 (fun j => .int (σ.2.1 a0 j))
  obtain ⟨-, k1, hk1, cm1, hkk1⟩ := (hK.2.1 0 (by decide)).1 n1 (fun j => .int (σ.2.1 a j))
  obtain ⟨vm', X', step⟩ := X.arraycopy hx hown (hts _ hlink) (hts _ hnat) (hts _ hstat) (hts _ hini) (src := b + a0) (dst := b + a) (cs := vp_cell (cA 0) (n0, .inl (σ.2.1 a0))) (cd := vp_cell (cA 0) (n1, .inl (σ.2.1 a))) (srcPos := sp) (destPos := dp) (n := n) (by rw [hT]; exact hc0) (by rw [hT]; exact hc1)
    (fun _ h => by cases h) (fun _ h => by cases h) (fun h => by cases h) (fun h => by cases h) hk0 hk1 hkk0 hkk1 (by simp [ax_tya]) h1 h2 h3
    (by rw [nn sp h1, nn n h3]; show ¬ _ > ((arrV (cA 0) n0 (fun j => .int (σ.2.1 a0 j))).slots.size : Int); rw [arrV_size]; omega)
    (by rw [nn dp h2, nn n h3]; show ¬ _ > ((arrV (cA 0) n1 (fun j => .int (σ.2.1 a j))).slots.size : Int); rw [arrV_size]; omega)
    (fun vm₁ _ i hi => by
      have e : (vp_cell (cA 0) (n0, .inl (σ.2.1 a0))).slots.getD (sp.toNatClampNeg + i) .null = .int (σ.2.1 a0 (sp.toNatClampNeg + i)) := by
        show (arrV (cA 0) n0 (fun j => .int (σ.2.1 a0 j))).slots.getD _ _ = _
        rw [Array.getD_eq_getD_getElem?, arrV_read _ _ (by omega)]
        rfl
      exact ⟨by rw [e]; rfl, by rw [e]; exact trivial⟩)
    (g := F0 m pc ls (.int n :: .int dp :: .ref (b + a) :: .int sp :: .ref (b + a0) :: rest)) rfl (by rw [hml]) (rest := rest) rfl (by rw [hb]; exact hdg) hframes (by show 2 * 0 + _ + (7 + 11) ≤ _; omega)
  have e1 : copied (vp_cell (cA 0) (n0, .inl (σ.2.1 a0))) (vp_cell (cA 0) (n1, .inl (σ.2.1 a))) sp dp n = vp_cell (cA 0) (n1, .inl (va_cpy (σ.2.1 a0) (σ.2.1 a) sp.toNatClampNeg dp.toNatClampNeg n.toNatClampNeg)) := va_copied (fun z => .int z) (cA 0) (cA 0) (σ.2.1 a0) (σ.2.1 a) h4
  rw [e1] at X' step
  have hl : b + a < H.size := (Array.getElem?_eq_some_iff.mp hc1).1
  generalize hcv : vp_cell (cA 0) (n1, .inl (va_cpy (σ.2.1 a0) (σ.2.1 a) sp.toNatClampNeg dp.toNatClampNeg n.toNatClampNeg)) = cv at X' step
  have hheap : ((T.setVm vm').setCell (b + a) cv).heap = H.setIfInBounds (b + a) cv := by rw [← hT]; rfl
  have oq : ∀ q : Nat, q ≠ b + a → (H.setIfInBounds (b + a) cv)[q]? = H[q]? := fun q hq => by simp [Array.getElem?_setIfInBounds, Ne.symm hq]
  obtain ⟨t, a1, b1⟩ := kk (H.setIfInBounds (b + a) cv) _ (ax_wd_upd (a := a) hw rfl (fun k hk => ⟨ax_up_ne hk, rfl⟩) (by simp) oq (by
      unfold ax_ce
      simp only [hsh]
      rw [show (H.setIfInBounds (b + a) cv)[b + a]? = some cv by simp [Array.getElem?_setIfInBounds, hl], ← hcv]
      simp only [ax_ar, ax_sA, ax_up_eq])) ⟨by simp; exact hS.1, fun q g1 g2 => by
      rw [oq q (fun e => g2 (by rw [e]; show b ≤ b + a; omega))]
      exact hS.2.1 q g1 g2, fun q hq => by
      rcases List.mem_append.mp hq with h | h
      · exact hS.2.2 q h
      · obtain ⟨z, -, hz⟩ := List.mem_map.mp h
        rw [← hz]
        show b ≤ b + a
        omega⟩ _ hheap X'
  exact ⟨t, step t a1, b1⟩
end
