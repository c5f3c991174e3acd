/-! the law, whole -/
theorem ax_nl_in : ∀ q ∈ ax_nl, Jvm.Cond.methodLinkNest q.1 q.2.1 q.2.2.1 q.2.2.2 ∈ lw_tbl := List.forall_mem_cons.mpr ⟨List.mem_of_getElem? (i := 127) (by decide +kernel), List.forall_mem_cons.mpr ⟨List.mem_of_getElem? (i := 153) (by decide +kernel), List.forall_mem_cons.mpr ⟨List.mem_of_getElem? (i := 220) (by decide +kernel), List.forall_mem_cons.mpr ⟨List.mem_of_getElem? (i := 322) (by decide +kernel), List.forall_mem_cons.mpr ⟨List.mem_of_getElem? (i := 344) (by decide +kernel), List.forall_mem_cons.mpr ⟨List.mem_of_getElem? (i := 440) (by decide +kernel), List.forall_mem_cons.mpr ⟨List.mem_of_getElem? (i := 553) (by decide +kernel), List.forall_mem_cons.mpr ⟨List.mem_of_getElem? (i := 899) (by decide +kernel), List.forall_mem_cons.mpr ⟨List.mem_of_getElem? (i := 1049) (by decide +kernel), List.forall_mem_cons.mpr ⟨List.mem_of_getElem? (i := 1093) (by decide +kernel), fun _ h => absurd h List.not_mem_nil⟩⟩⟩⟩⟩⟩⟩⟩⟩⟩
theorem ax_dl_in : ∀ x ∈ ax_dl, Jvm.Cond.declares x ∈ lw_tbl := List.forall_mem_cons.mpr ⟨List.mem_of_getElem? (i := 477) (by decide +kernel), List.forall_mem_cons.mpr ⟨List.mem_of_getElem? (i := 491) (by decide +kernel), List.forall_mem_cons.mpr ⟨List.mem_of_getElem? (i := 517) (by decide +kernel), fun _ h => absurd h List.not_mem_nil⟩⟩⟩
theorem ax_known {s : State} {args : Array Value} (hts : ∀ w ∈ lw_tbl, w.before args s = true) : ∃ (D : va_G) (cA : Nat → ClassId), ax_K D cA s := by
  have htb : ∀ w ∈ ax_tb, w.before args s = true := fun w h => hts w (List.mem_filter.mp h).1
  have h1 : ∀ k : Nat, ∃ x : ClassId × (Nat → Nat), ∀ q : vw_C, ax_cl[k]? = some q → u_Kn s q.1 q.2.1 q.2.2 x.1 x.2 := fun k => by
    cases hk : ax_cl[k]? with
    | none => exact ⟨(0, fun _ => 0), fun q h => by cases h⟩
    | some q =>
      obtain ⟨C, T, N⟩ := q
      obtain ⟨⟨c1, c2, c3, c4, c5⟩, -⟩ := ax_T2 k C T N hk
      obtain ⟨cC, iS, h⟩ := u_known (n := N) htb c1 (htb _ c5)
      exact ⟨(cC, iS), fun q hq => by cases hq; exact h⟩
  obtain ⟨F, hF⟩ := Classical.axiomOfChoice h1
  have h2 : ∀ t : Nat, ∃ cA : ClassId, t < 3 → ArrOfT s cA (ax_tya t) ∧ s.vm.findClass ("[" ++ (ax_tya t).toString) = some cA := fun t => by
    by_cases ht : t < 3
    · obtain ⟨cA, kA, comp, a1, a2, a3⟩ := Cond.arrayClass_spec (htb _ (ax_T9 t ht))
      exact ⟨cA, fun _ => ⟨fun n z => ⟨fun k h => (by cases h), kA, a2, comp, a3⟩, a1⟩⟩
    · exact ⟨0, fun h => absurd h ht⟩
  obtain ⟨cA, hA⟩ := Classical.axiomOfChoice h2
  exact ⟨(fun k => (F k).1, fun k => (F k).2), cA, fun k q hq => hF k q hq, fun t ht => hA t ht, fun q hq => va_Nw.of rfl (hts _ (ax_nl_in q hq)), fun x hx => va_Nw.of rfl (hts _ (ax_dl_in x hx))⟩
theorem ax_sl83 : ax_sl 83 ≤ 7302250 := by decide +kernel
theorem ax_lawMOK (nm : String) : ax_MOK (⟨R_law, nm, ""⟩, ax_m286.2) := by
  obtain ⟨h1, h2⟩ := ax_pn286.1
  refine ⟨h1, fun pc x len ci j hp hf C T N hc => ?_⟩
  rcases h2 pc x len ci j hp hf C T N hc with h | ⟨-, h, -⟩
  · exact Or.inl h
  · exact absurd h (show ¬ "law" = "<init>" by decide)
/-- YOUR PART: from the entry, for every script of at most 3072 ints, the law comes to its end with true ('hflags': the launch's flags, for a law that throws: no stack traces) -/
theorem whole_start {p : Program} {e : Env} {s : State} {m : MethodId} {below : List Frame} {meth : Method} {c : Code} (l : Launch) (hflags : l.flags = flags0) {b L : Nat} {xs : Nat → Int32} (hL : L ≤ 3072) (C0 : lw_At p s m meth c b L xs) : W p l e room_1 s m #[Value.ref b] below meth c s.heap [] 0 0 (lw_Z below #[Value.ref b] s) (entryFrame m ([Value.ref b] : List Value).toArray 4) := by
  obtain ⟨hx, hb, hr, hml, hown, hts, hX, hbl, hlocks, hgv⟩ := C0
  have htb : ∀ w ∈ ax_tb, w.before #[Value.ref b] s = true := fun w h => hts w (List.mem_filter.mp h).1
  obtain ⟨D, cA, hK⟩ := ax_known hts
  generalize hM : ((⟨R_law, meth.name, ""⟩, ax_m286.2) : ax_M) = M
  have hMOK : ax_MOK M := by rw [← hM]; exact ax_lawMOK _
  have hnm : meth.name = M.1.name := by rw [← hM]
  have hM2 : M.2 = ax_m286.2 := by rw [← hM]
  rw [lg_entry_eq]
  have hl : ax_lh s.heap.size b ((lg_sl [Value.ref b] ++ List.replicate (4 - (lg_sl [Value.ref b]).length) Slot.unset).toArray) [some (.ref 1000), none, none, none] := ax_lh_entry s.heap.size b ax_m286 [.ref 1000] (Nat.le_of_ble_eq_true rfl)
  have hsz : ((lg_sl [Value.ref b] ++ List.replicate (4 - (lg_sl [Value.ref b]).length) Slot.unset).toArray).size = 4 := hl.1
  generalize (lg_sl [Value.ref b] ++ List.replicate (4 - (lg_sl [Value.ref b]).length) Slot.unset).toArray = arr at hl hsz ⊢
  have hfix : CallFix p m c M.2.1 4 s #[Value.ref b] ax_tb (ax_on M.2.2.2.2.1) := by
    rw [hM2]
    exact ⟨hx, hb, hml, hown, htb⟩
  have hXX : ∀ q, some (L, xs) = some q → va_X b q.1 q.2 s s.heap ∧ b < s.heap.size ∧ s.heap.size ≤ s.heap.size := fun q hq => by
    cases hq
    exact ⟨hX, hbl, Nat.le_refl _⟩
  have hO1 : ax_On p l room_1 s m #[Value.ref b] meth c D cA s.heap.size b false (some (L, xs)) (ax_ev false 4) M 4 0 83 4 :=
    ⟨ax_ok, hMOK, hfix, hK, hnm, hXX, fun ν As σ o h hN => ax_met l D cA s.heap.size b false 4 ν As σ o h hN, ax_ev_mono 4, Nat.le_of_ble_eq_true rfl, Nat.le_of_ble_eq_true rfl, Nat.le_of_ble_eq_true rfl, Nat.le_trans (Nat.sub_le _ _) ax_sl83⟩
  obtain ⟨f2, g2, hH, hrk⟩ := i_law 0 (fun _ _ => 0) (fun _ _ => 0) (L, xs) ⟨R_law, meth.name, ""⟩
  rw [hM] at hrk
  have go := ax_rk_ok (e := e) (below := below) (Q := lw_Z below #[Value.ref b] s) ax_hT3 hO1 (fun pc ls st σ h => by rw [h.2.2.2]; exact Nat.le_refl _) (fun pc ls st σ H locs arr2 h hw hS hl2 hsz2 hn0 => ?_) 10 0 _ [] (0, fun _ _ => 0, fun _ _ => 0) s.heap [] arr hrk hsz hl ⟨rfl, (fun h => by cases h), fun k hk => absurd hk (Nat.not_lt_zero _)⟩ va_S.rf (Nat.le_refl _)
  · exact go
  · obtain ⟨rfl, rfl, rfl, rfl⟩ := h
    have hw2 := i_wd hH hw
    obtain ⟨t, ht⟩ := c_loop (xs := xs) hL 600 0 (83, f2, g2) (Nat.zero_le _) (by omega) (i_y hH)
    obtain ⟨n, hn⟩ := w_L_law_l18 0 L xs (o := (some (.int 1), t)) 600 (nI 0) (83, f2, g2) (1, t) ht (fun q hq => by cases hq; rfl)
    have hn : ax_run true (some (L, xs)) (ax_ev true 53) M n 18 [some (.ref 1000), some (.ref 0), some (.ref 63), some (.int (nI 0))] [] (83, f2, g2) (some (.int 1), t) := by
      rw [← hM, ax_run_nm (y2 := ax_m286.1)]
      exact hn
    have ht1 : t.1 = 83 := ax_run_keep (ax_ev_keep 53) _ _ _ _ _ _ hn
    have hO2 : ax_On p l room_1 s m #[Value.ref b] meth c D cA s.heap.size b true (some (L, xs)) (ax_ev true 53) M 53 0 t.1 4 := by
      rw [ht1]
      exact ⟨ax_ok, hMOK, hfix, hK, hnm, hXX, fun ν As σ o h hN => ax_met l D cA s.heap.size b true 53 ν As σ o h hN, ax_ev_mono 53, Nat.le_of_ble_eq_true rfl, Nat.le_of_ble_eq_true rfl, Nat.le_of_ble_eq_true rfl, Nat.le_trans (Nat.sub_le _ _) ax_sl83⟩
    exact ax_run_ok (o := (some (.int 1), t)) ax_hT3 hO2
      (fun v σ H locs pc arr ho hw' hS' hd _ => by
        cases ho
        rw [hM2] at hd
        refine W.widen (k := 600000) (n := 7302250) (by rw [ht1]; exact Nat.le_of_ble_eq_true rfl) (by rw [ht1]; exact Nat.le_trans (Nat.sub_le _ _) ax_sl83) (va_forget (fun q hq => hS'.2.2 q hq) ?_)
        exact lw_ret hx hb hr hlocks hd)
      (fun v σ H locs pc arr ho => by cases ho)
      (fun σ H locs pc arr ho => by cases ho)
      n 18 _ [] _ H locs arr2 hn hsz2 hl2 hw2 hS hn0
