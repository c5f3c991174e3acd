/-! the heap of a store: reads and writes -/
def ax_A (b : Nat) : Nat → Prop := fun q => b ≤ q
theorem ax_ce_same {D : va_G} {cA : Nat → ClassId} {b : Nat} {ph : Bool} {σ σ' : ax_S} {H H' : Heap} {k : Nat} (h : ax_ce D cA b ph σ H k) (e1 : σ'.2.1 k = σ.2.1 k) (e2 : σ'.2.2 k = σ.2.2 k) (e3 : H'[b + k]? = H[b + k]?) : ax_ce D cA b ph σ' H' k := by
  unfold ax_ce at h ⊢
  cases hs : ax_sh k with
  | inl ci =>
    simp only [hs] at h
    obtain ⟨r, h1, h2⟩ := h
    refine ⟨r, h1, (h2.kept e3).to fun j _ => ?_⟩
    unfold ax_fv
    rw [e1]
  | inr q =>
    simp only [hs] at h
    show H'[b + k]? = _
    rw [e3, h]
    unfold ax_ar
    rw [e1, e2]
theorem ax_wd_upd {D : va_G} {cA : Nat → ClassId} {b : Nat} {ph : Bool} {σ σ' : ax_S} {H H' : Heap} {a : Nat} (hw : ax_wd D cA b ph σ H) (hn : σ'.1 = σ.1) (ho : ∀ k, k ≠ a → σ'.2.1 k = σ.2.1 k ∧ σ'.2.2 k = σ.2.2 k) (hz : H'.size = H.size) (oq : ∀ q, q ≠ b + a → H'[q]? = H[q]?) (hs : ax_ce D cA b ph σ' H' a) : ax_wd D cA b ph σ' H' := by
  refine ⟨by rw [hz, hn]; exact hw.1, fun h => by rw [hn]; exact hw.2.1 h, fun k hk => ?_⟩
  rw [hn] at hk
  by_cases hka : k = a
  · rw [hka]; exact hs
  · exact ax_ce_same (hw.2.2 k hk) (ho k hka).1 (ho k hka).2 (oq _ (by omega))
theorem ax_up_ne {α : Type} {f : Nat → α} {k j : Nat} {v : α} (h : j ≠ k) : ax_up f k v j = f j := if_neg h
theorem ax_up_eq {α : Type} {f : Nat → α} {k : Nat} {v : α} : ax_up f k v k = v := if_pos rfl
section
variable {p : Program} {l : Launch} {e : Env} {R : Room} {s : State} {m : MethodId} {args : Array Value} {below : List Frame} {meth : Method} {c : Code} {H : Heap} {locs : List Loc} {cells slots : Nat} {Q : State → Prop}
variable {cc : ByteArray} {pc : Nat} {ls : Array Slot} {rest : List Value} {D : va_G} {cA : Nat → ClassId} {b : Nat} {ph : Bool} {σ : ax_S} {a o x ci j : Nat} {H0 : Heap}
theorem ax_W_get (hx : p.tables.exec = Jvm.exec) (hb : c.code = cc) (hts : ∀ w ∈ ax_tb, w.before args s = true) (hown : s.vm.findClass (ax_on o) = some m.cls) (hK : ax_K D cA s) (hF : ax_FOK o x ci j) (hC : ∀ C T N, ax_cl[ci]? = some (C, T, N) → ax_COK ci C T N) (hsh : ax_sh a = .inl ci) (hw : ax_wd D cA b ph σ H) (ha : a < σ.1) (hdg : decode cc pc = .ok (.getfield x, 3))
    (kk : W p l e R s m args below meth c H locs cells slots Q (F0 m (pc + 3) ls (ax_fv b ph σ ci a j :: rest))) : W p l e R s m args below meth c H locs cells slots Q (F0 m pc ls (.ref (b + a) :: rest)) := by
  obtain ⟨C, T, N, ref, hc, hj, hlw, hsame⟩ := hF
  obtain ⟨hin, hty, hnm, hkt, hins⟩ := hC C T N hc
  have h0 := hw.2.2 a ha
  unfold ax_ce at h0
  simp only [hsh] at h0
  obtain ⟨r, h1, cell, q1, q2, q3, q4⟩ := h0
  have hr : r = (C, T, N) := Option.some.inj (h1.symm.trans hc)
  subst hr
  obtain ⟨hS, hfc, kC, hkC, hkind⟩ := hK.1 ci _ hc
  obtain ⟨cf, kf, fi, f, hi, hsl⟩ := hS j hj
  have hi2 : s.fieldFound? ref (T j).2.1 (T j).2.2.1 = some (cf, kf, fi, f) := by
    rcases hsame with h | h
    · rw [← h]; exact hi
    · exact u_same (hts _ h) _ hi
  refine W.getf hx hb hown (hts _ hlw) hi2 (u_facts hfc hkC (u_lays hts hin hj) hi).1 q1 (by rw [q3]; exact fun h => by cases h) (v := ax_fv b ph σ ci a j) ?_ rfl rfl hdg kk
  rw [hsl, q4 j hj]
theorem ax_W_put (hx : p.tables.exec = Jvm.exec) (hb : c.code = cc) (hts : ∀ w ∈ ax_tb, w.before args s = true) (hown : s.vm.findClass (ax_on o) = some m.cls) (hK : ax_K D cA s) (hF : ax_FOK o x ci j) (hC : ∀ C T N, ax_cl[ci]? = some (C, T, N) → ax_COK ci C T N)
    (hfin : ∀ C T N, ax_cl[ci]? = some (C, T, N) → (T j).2.2.2 = false ∨ ((T j).2.2.2 = true ∧ meth.name = "<init>" ∧ (T j).1 = ax_on o)) (hsh : ax_sh a = .inl ci) (hw : ax_wd D cA b ph σ H) (hS0 : va_S (ax_A b) H0 H locs) (ha : a < σ.1) {v : Value} {y : Int32} (hv : ax_fv b ph (ax_sI σ a j y) ci a j = v) (hn : narrow (ax_ty ci j) v = v) (hfit : fits (ax_ty ci j) v = true) (hdg : decode cc pc = .ok (.putfield x, 3))
    (kk : ∀ (H1 : Heap) (locs1 : List Loc), ax_wd D cA b ph (ax_sI σ a j y) H1 → va_S (ax_A b) H0 H1 locs1 → W p l e R s m args below meth c H1 locs1 cells slots Q (F0 m (pc + 3) ls rest)) : W p l e R s m args below meth c H locs cells slots Q (F0 m pc ls (v :: .ref (b + a) :: rest)) := by
  obtain ⟨C, T, N, ref, hc, hj, hlw, hsame⟩ := hF
  obtain ⟨hin, hty, hnm, hkt, hins⟩ := hC C T N hc
  have h0 := hw.2.2 a ha
  unfold ax_ce at h0
  simp only [hsh] at h0
  obtain ⟨r, h1, cell, q1, q2, q3, q4⟩ := h0
  have hr : r = (C, T, N) := Option.some.inj (h1.symm.trans hc)
  subst hr
  obtain ⟨hS, hfc, kC, hkC, hkind⟩ := hK.1 ci _ hc
  obtain ⟨cf, kf, fi, f, hi, hsl⟩ := hS j hj
  have hi2 : s.fieldFound? ref (T j).2.1 (T j).2.2.1 = some (cf, kf, fi, f) := by
    rcases hsame with h | h
    · rw [← h]; exact hi
    · exact u_same (hts _ h) _ hi
  have hap : ∀ x y, x < N → y < N → x ≠ y → (D.2 ci) x ≠ (D.2 ci) y := by
    intro x y hx hy hne
    obtain ⟨_, _, _, fa, hia, ea⟩ := hS x hx
    obtain ⟨_, _, _, fb, hib, eb⟩ := hS y hy
    rw [← ea, ← eb]
    refine u_apart (u_lays hts hin hx) (u_lays hts hin hy) hia hib ?_
    rw [(State.fieldFound?_type hia (hty x hx)).1, (State.fieldFound?_type hib (hty y hy)).1]
    exact hnm x hx y hy hne
  have hst := (u_facts hfc hkC (u_lays hts hin hj) hi).1
  have fin : ∀ (H' : Heap) (locs1 : List Loc), H'[b + a]? = some (cell.setSlot f.slot v) → H'.size = H.size → (∀ q, q ≠ b + a → H'[q]? = H[q]?) → locs1 = locs ++ [⟨b + a, f.slot⟩] → W p l e R s m args below meth c H' locs1 cells slots Q (F0 m (pc + 3) ls rest) := by
    intro H' locs1 e1 e2 e3 e4
    subst e4
    refine kk H' _ (ax_wd_upd (a := a) hw rfl (fun k hk => ⟨ax_up_ne hk, rfl⟩) e2 e3 ?_) (hS0.put e2 e3 (by show b ≤ b + a; omega))
    unfold ax_ce
    simp only [hsh]
    refine ⟨_, hc, t_OB.to (V := updV (ax_fv b ph σ ci a) j v) ⟨_, e1, q2, q3, by rw [hsl]; exact t_set q4 hap hj v⟩ (fun i _ => ?_)⟩
    by_cases hij : i = j
    · subst hij
      rw [hv]
      simp [updV]
    · simp only [updV, if_neg hij]
      unfold ax_fv ax_sI
      simp only [ax_up_eq, upd, if_neg hij]
  rcases hfin C T N hc with hf | ⟨hf, hin2, hdecl⟩
  · have hlay := hts _ (hin _ (u_in_lay hj))
    unfold u_lay at hlay
    rw [if_neg (by rw [hf]; decide)] at hlay
    have h6 := u_store hfc hkC hkind hlay hi (hty j hj) hn hfit
    exact W.putK hx hb (f := f) ⟨hown, hts _ hlw, ⟨_, _, _, hi2⟩, hst⟩ (by rw [q2]; exact h6) q1 q3 (by rw [hsl]; exact k2_hasslot (q4 j hj)) rfl rfl hdg fun H' e1 e2 e3 => fin H' _ e1 e2 e3 rfl
  · have hlay := hts _ (hin _ (u_in_lay hj))
    unfold u_lay at hlay
    rw [if_pos hf] at hlay
    have hcf : m.cls = cf := by
      obtain ⟨_, _, c', _, _, _, -, -, hf', -, -, -, hown2, -⟩ := Cond.laysFinal_spec hlay
      have e1 : c' = cf := by have := hi.symm.trans hf'; simp at this; exact this.1.symm
      rw [hdecl] at hown2
      rw [← e1]; exact Option.some.inj (hown.symm.trans hown2)
    have h6 := u_fits hfc hkC hkind (Or.inr hlay) hi (hty j hj) hn hfit
    exact W.putFinK hx hb hown (hts _ hlw) hi2 hst hcf hin2 (by rw [q2]; exact h6) q1 q3 (by rw [hsl]; exact k2_hasslot (q4 j hj)) rfl rfl hdg fun H' e1 e2 e3 => fin H' _ e1 e2 e3 rfl
theorem ax_cell_at {n : Nat} {t : Nat} (hsh : ax_sh a = .inr (t, n)) (hw : ax_wd D cA b ph σ H) (ha : a < σ.1) : H[b + a]? = some (ax_ar cA (t, n) σ a) := by
  have h0 := hw.2.2 a ha
  unfold ax_ce at h0
  simp only [hsh] at h0
  exact h0
theorem ax_W_iald (hx : p.tables.exec = Jvm.exec) (hb : c.code = cc) (hK : ax_K D cA s) {n : Nat} (hsh : ax_sh a = .inr (0, n)) (hw : ax_wd D cA b ph σ H) (ha : a < σ.1) {i : Int32} (hin : vp_in i n) (hdg : decode cc pc = .ok (.iaload, 1))
    (kk : W p l e R s m args below meth c H locs cells slots Q (F0 m (pc + 1) ls (.int (σ.2.1 a i.toNatClampNeg) :: rest))) : W p l e R s m args below meth c H locs cells slots Q (F0 m pc ls (.int i :: .ref (b + a) :: rest)) := by
  have hlt : i.toNatClampNeg < n := Nat.not_le.mp fun q => hin (Or.inr q)
  exact W.iald (v := .int (σ.2.1 a i.toNatClampNeg)) hx hb (ax_cell_at hsh hw ha) ((hK.2.1 0 (by decide)).1 n (fun j => .int (σ.2.1 a j))) (fun q => by cases q) (by show ¬ (i < 0 ∨ (arrV _ _ _).slots.size ≤ _); rw [arrV_size]; exact hin) (by show (arrV _ _ _).slots[_]? = _; rw [arrV_read _ _ hlt]) rfl rfl hdg kk
theorem ax_W_bald (hx : p.tables.exec = Jvm.exec) (hb : c.code = cc) (hK : ax_K D cA s) {n : Nat} (hsh : ax_sh a = .inr (1, n)) (hw : ax_wd D cA b ph σ H) (ha : a < σ.1) {i : Int32} (hin : vp_in i n) (hdg : decode cc pc = .ok (.baload, 1))
    (kk : W p l e R s m args below meth c H locs cells slots Q (F0 m (pc + 1) ls (.int (σ.2.1 a i.toNatClampNeg) :: rest))) : W p l e R s m args below meth c H locs cells slots Q (F0 m pc ls (.int i :: .ref (b + a) :: rest)) := by
  have hlt : i.toNatClampNeg < n := Nat.not_le.mp fun q => hin (Or.inr q)
  exact W.bald (v := .int (σ.2.1 a i.toNatClampNeg)) hx hb (ax_cell_at hsh hw ha) ((hK.2.1 1 (by decide)).1 n (fun j => .int (σ.2.1 a j))) (fun q => by cases q) (by show ¬ (i < 0 ∨ (arrV _ _ _).slots.size ≤ _); rw [arrV_size]; exact hin) (by show (arrV _ _ _).slots[_]? = _; rw [arrV_read _ _ hlt]) rfl rfl hdg kk
theorem ax_W_lald (hx : p.tables.exec = Jvm.exec) (hb : c.code = cc) (hK : ax_K D cA s) {n : Nat} (hsh : ax_sh a = .inr (2, n)) (hw : ax_wd D cA b ph σ H) (ha : a < σ.1) {i : Int32} (hin : vp_in i n) (hdg : decode cc pc = .ok (.laload, 1))
    (kk : W p l e R s m args below meth c H locs cells slots Q (F0 m (pc + 1) ls (.long (σ.2.2 a i.toNatClampNeg) :: rest))) : W p l e R s m args below meth c H locs cells slots Q (F0 m pc ls (.int i :: .ref (b + a) :: rest)) := by
  have hlt : i.toNatClampNeg < n := Nat.not_le.mp fun q => hin (Or.inr q)
  exact W.lald (v := .long (σ.2.2 a i.toNatClampNeg)) hx hb (ax_cell_at hsh hw ha) ((hK.2.1 2 (by decide)).1 n (fun j => .long (σ.2.2 a j))) (fun q => by cases q) (by show ¬ (i < 0 ∨ (arrV _ _ _).slots.size ≤ _); rw [arrV_size]; exact hin) (by show (arrV _ _ _).slots[_]? = _; rw [arrV_read _ _ hlt]) rfl rfl hdg kk
theorem ax_W_alen (hx : p.tables.exec = Jvm.exec) (hb : c.code = cc) (hK : ax_K D cA s) {t n : Nat} (hsh : ax_sh a = .inr (t, n)) (hw : ax_wd D cA b ph σ H) (ha : a < σ.1) (hdg : decode cc pc = .ok (.arraylength, 1))
    (kk : W p l e R s m args below meth c H locs cells slots Q (F0 m (pc + 1) ls (.int (Int32.ofNat n) :: rest))) : W p l e R s m args below meth c H locs cells slots Q (F0 m pc ls (.ref (b + a) :: rest)) := by
  have hc := ax_cell_at hsh hw ha
  match t, hc with
  | 0, hc => exact W.alen (n := Int32.ofNat n) hx hb hc ((hK.2.1 0 (by decide)).1 n (fun j => .int (σ.2.1 a j))) (by show (vp_cell _ _).slots.size.toInt32 = _; rw [vp_cell_i, arrV_size] <;> rfl) rfl rfl hdg kk
  | 1, hc => exact W.alen (n := Int32.ofNat n) hx hb hc ((hK.2.1 1 (by decide)).1 n (fun j => .int (σ.2.1 a j))) (by show (vp_cell _ _).slots.size.toInt32 = _; rw [vp_cell_i, arrV_size] <;> rfl) rfl rfl hdg kk
  | _ + 2, hc => exact W.alen (n := Int32.ofNat n) hx hb hc ((hK.2.1 2 (by decide)).1 n (fun j => .long (σ.2.2 a j))) (by show (vp_cell _ _).slots.size.toInt32 = _; rw [vp_cell_l, arrV_size] <;> rfl) rfl rfl hdg kk
theorem ax_W_iast (hx : p.tables.exec = Jvm.exec) (hb : c.code = cc) (hK : ax_K D cA s) {n : Nat} (hsh : ax_sh a = .inr (0, n)) (hw : ax_wd D cA b ph σ H) (hS : va_S (ax_A b) H0 H locs) (ha : a < σ.1) {i y : Int32} (hin : vp_in i n) (hdg : decode cc pc = .ok (.iastore, 1))
    (kk : ∀ (H1 : Heap) (locs1 : List Loc), ax_wd D cA b ph (ax_sI σ a i.toNatClampNeg y) H1 → va_S (ax_A b) H0 H1 locs1 → W p l e R s m args below meth c H1 locs1 cells slots Q (F0 m (pc + 1) ls rest)) : W p l e R s m args below meth c H locs cells slots Q (F0 m pc ls (.int y :: .int i :: .ref (b + a) :: rest)) := by
  refine W.iast hx hb (ax_cell_at hsh hw ha) ((hK.2.1 0 (by decide)).1 n (fun j => .int (σ.2.1 a j))) (fun q => by cases q) (by show ¬ (i < 0 ∨ (arrV _ _ _).slots.size ≤ _); rw [arrV_size]; exact hin) rfl rfl hdg fun H1 e z oq => ?_
  refine kk H1 _ (ax_wd_upd (a := a) hw rfl (fun k hk => ⟨ax_up_ne hk, rfl⟩) z oq ?_) (hS.put z oq (by show b ≤ b + a; omega))
  unfold ax_ce
  simp only [hsh]
  rw [e]
  show some ((vp_cell (cA 0) (n, .inl (σ.2.1 a))).setSlot _ _) = some (vp_cell (cA 0) (n, .inl ((ax_sI σ a i.toNatClampNeg y).2.1 a)))
  rw [vp_cell_i, vp_cell_i, arrV_store]
  congr 2
  funext q
  simp only [ax_sI, ax_up_eq]
  by_cases hq : q = i.toNatClampNeg
  · subst hq
    simp [updV, upd]
  · simp [updV, upd, hq]
theorem ax_W_bast (hx : p.tables.exec = Jvm.exec) (hb : c.code = cc) (hK : ax_K D cA s) {n : Nat} (hsh : ax_sh a = .inr (1, n)) (hw : ax_wd D cA b ph σ H) (hS : va_S (ax_A b) H0 H locs) (ha : a < σ.1) {i y : Int32} (hin : vp_in i n) (hdg : decode cc pc = .ok (.bastore, 1))
    (kk : ∀ (H1 : Heap) (locs1 : List Loc), ax_wd D cA b ph (ax_sI σ a i.toNatClampNeg y.toInt8.toInt32) H1 → va_S (ax_A b) H0 H1 locs1 → W p l e R s m args below meth c H1 locs1 cells slots Q (F0 m (pc + 1) ls rest)) : W p l e R s m args below meth c H locs cells slots Q (F0 m pc ls (.int y :: .int i :: .ref (b + a) :: rest)) := by
  refine W.bast hx hb (ax_cell_at hsh hw ha) ((hK.2.1 1 (by decide)).1 n (fun j => .int (σ.2.1 a j))) (fun q => by cases q) (by show ¬ (i < 0 ∨ (arrV _ _ _).slots.size ≤ _); rw [arrV_size]; exact hin) rfl rfl hdg fun H1 e z oq => ?_
  refine kk H1 _ (ax_wd_upd (a := a) hw rfl (fun k hk => ⟨ax_up_ne hk, rfl⟩) z oq ?_) (hS.put z oq (by show b ≤ b + a; omega))
  unfold ax_ce
  simp only [hsh]
  rw [e]
  show some ((vp_cell (cA 1) (n, .inl (σ.2.1 a))).setSlot _ _) = some (vp_cell (cA 1) (n, .inl ((ax_sI σ a i.toNatClampNeg y.toInt8.toInt32).2.1 a)))
  rw [vp_cell_i, vp_cell_i, arrV_store]
  congr 2
  funext q
  simp only [ax_sI, ax_up_eq]
  by_cases hq : q = i.toNatClampNeg
  · subst hq
    simp [updV, upd, narrow]
  · simp [updV, upd, hq]
theorem ax_W_last (hx : p.tables.exec = Jvm.exec) (hb : c.code = cc) (hK : ax_K D cA s) {n : Nat} (hsh : ax_sh a = .inr (2, n)) (hw : ax_wd D cA b ph σ H) (hS : va_S (ax_A b) H0 H locs) (ha : a < σ.1) {i : Int32} {y : Int64} (hin : vp_in i n) (hdg : decode cc pc = .ok (.lastore, 1))
    (kk : ∀ (H1 : Heap) (locs1 : List Loc), ax_wd D cA b ph (ax_sL σ a i.toNatClampNeg y) H1 → va_S (ax_A b) H0 H1 locs1 → W p l e R s m args below meth c H1 locs1 cells slots Q (F0 m (pc + 1) ls rest)) : W p l e R s m args below meth c H locs cells slots Q (F0 m pc ls (.long y :: .int i :: .ref (b + a) :: rest)) := by
  refine W.last hx hb (ax_cell_at hsh hw ha) ((hK.2.1 2 (by decide)).1 n (fun j => .long (σ.2.2 a j))) (fun q => by cases q) (by show ¬ (i < 0 ∨ (arrV _ _ _).slots.size ≤ _); rw [arrV_size]; exact hin) rfl rfl hdg fun H1 e z oq => ?_
  refine kk H1 _ (ax_wd_upd (a := a) hw rfl (fun k hk => ⟨rfl, ax_up_ne hk⟩) z oq ?_) (hS.put z oq (by show b ≤ b + a; omega))
  unfold ax_ce
  simp only [hsh]
  rw [e]
  show some ((vp_cell (cA 2) (n, .inr (.inl (σ.2.2 a)))).setSlot _ _) = some (vp_cell (cA 2) (n, .inr (.inl ((ax_sL σ a i.toNatClampNeg y).2.2 a))))
  rw [vp_cell_l, vp_cell_l, arrV_store]
  congr 2
  funext q
  simp only [ax_sL, ax_up_eq]
  by_cases hq : q = i.toNatClampNeg
  · subst hq
    simp [updV, vp_updL]
  · simp [updV, vp_updL, hq]
end
