/-! decoding: every method's instructions are its bytes' -/
def ax_PM (M : ax_M) : Prop := ax_MOK M ∧ plainName M.1.cls = true ∧ M.1.cls = ax_on M.2.2.2.2.1
def ax_chI (M : ax_M) (pc : Nat) : Bool := match M.2.2.2.2.2 pc with
  | none => true
  | some q => decide (decode M.2.1 pc = .ok q) && ax_iok pc q.1 q.2 && (match q.1 with
    | .putfield x => (List.range 12).all (fun ci => match ax_fl M.2.2.2.2.1 x ci, ax_cl[ci]? with
      | some j, some r => !(r.2.1 j).2.2.2 || ((r.2.1 j).2.2.2 && decide (M.1.name = "<init>") && decide ((r.2.1 j).1 = ax_on M.2.2.2.2.1))
      | _, _ => true)
    | _ => true)
def ax_chM (M : ax_M) (n : Nat) : Bool := (List.range n).all (ax_chI M) && plainName M.1.cls && decide (M.1.cls = ax_on M.2.2.2.2.1)
theorem ax_chM_ok {M : ax_M} {n : Nat} (h : ax_chM M n = true) (ho : ∀ pc, Nat.blt pc n = false → M.2.2.2.2.2 pc = none) : ax_PM M := by
  unfold ax_chM at h
  simp only [Bool.and_eq_true, decide_eq_true_eq] at h
  obtain ⟨⟨h1, h2⟩, h3⟩ := h
  have key : ∀ pc i len, M.2.2.2.2.2 pc = some (i, len) → ax_chI M pc = true := by
    intro pc i len hi
    cases hb : Nat.blt pc n with
    | true => exact List.all_eq_true.mp h1 pc (List.mem_range.mpr (ax_blt hb))
    | false => rw [ho pc hb] at hi; cases hi
  refine ⟨⟨fun pc i len hi => ?_, fun pc x len ci j hi hj C T N hc => ?_⟩, h2, h3⟩
  · have h4 := key pc i len hi
    unfold ax_chI at h4
    rw [hi] at h4
    simp only [Bool.and_eq_true, decide_eq_true_eq] at h4
    exact h4.1
  · have h4 := key pc _ len hi
    unfold ax_chI at h4
    rw [hi] at h4
    simp only [Bool.and_eq_true, decide_eq_true_eq] at h4
    have hlt : ci < 12 := (List.getElem?_eq_some_iff.mp hc).1
    have h5 := List.all_eq_true.mp h4.2 ci (List.mem_range.mpr hlt)
    rw [hj, hc] at h5
    simp only [Bool.or_eq_true, Bool.not_eq_true', Bool.and_eq_true, decide_eq_true_eq] at h5
    rcases h5 with h5 | h5
    · exact Or.inl h5
    · exact Or.inr ⟨h5.1.1, h5.1.2, h5.2⟩
theorem ax_pd0 : ax_chM ax_m0 174 = true := by decide +kernel
theorem ax_pn0 : ax_PM ax_m0 := ax_chM_ok ax_pd0 (fun pc h => by show (bif Nat.blt pc 174 then _ else none) = none; rw [h]; rfl)
theorem ax_pd1 : ax_chM ax_m1 14 = true := by decide +kernel
theorem ax_pn1 : ax_PM ax_m1 := ax_chM_ok ax_pd1 (fun pc h => by show (bif Nat.blt pc 14 then _ else none) = none; rw [h]; rfl)
theorem ax_pd2 : ax_chM ax_m2 54 = true := by decide +kernel
theorem ax_pn2 : ax_PM ax_m2 := ax_chM_ok ax_pd2 (fun pc h => by show (bif Nat.blt pc 54 then _ else none) = none; rw [h]; rfl)
theorem ax_pd3 : ax_chM ax_m3 53 = true := by decide +kernel
theorem ax_pn3 : ax_PM ax_m3 := ax_chM_ok ax_pd3 (fun pc h => by show (bif Nat.blt pc 53 then _ else none) = none; rw [h]; rfl)
theorem ax_pd4 : ax_chM ax_m4 21 = true := by decide +kernel
theorem ax_pn4 : ax_PM ax_m4 := ax_chM_ok ax_pd4 (fun pc h => by show (bif Nat.blt pc 21 then _ else none) = none; rw [h]; rfl)
theorem ax_pd5 : ax_chM ax_m5 63 = true := by decide +kernel
theorem ax_pn5 : ax_PM ax_m5 := ax_chM_ok ax_pd5 (fun pc h => by show (bif Nat.blt pc 63 then _ else none) = none; rw [h]; rfl)
theorem ax_pd6 : ax_chM ax_m6 13 = true := by decide +kernel
theorem ax_pn6 : ax_PM ax_m6 := ax_chM_ok ax_pd6 (fun pc h => by show (bif Nat.blt pc 13 then _ else none) = none; rw [h]; rfl)
theorem ax_pd7 : ax_chM ax_m7 15 = true := by decide +kernel
theorem ax_pn7 : ax_PM ax_m7 := ax_chM_ok ax_pd7 (fun pc h => by show (bif Nat.blt pc 15 then _ else none) = none; rw [h]; rfl)
theorem ax_pd8 : ax_chM ax_m8 13 = true := by decide +kernel
theorem ax_pn8 : ax_PM ax_m8 := ax_chM_ok ax_pd8 (fun pc h => by show (bif Nat.blt pc 13 then _ else none) = none; rw [h]; rfl)
theorem ax_pd9 : ax_chM ax_m9 13 = true := by decide +kernel
theorem ax_pn9 : ax_PM ax_m9 := ax_chM_ok ax_pd9 (fun pc h => by show (bif Nat.blt pc 13 then _ else none) = none; rw [h]; rfl)
theorem ax_pd10 : ax_chM ax_m10 13 = true := by decide +kernel
theorem ax_pn10 : ax_PM ax_m10 := ax_chM_ok ax_pd10 (fun pc h => by show (bif Nat.blt pc 13 then _ else none) = none; rw [h]; rfl)
theorem ax_pd11 : ax_chM ax_m11 13 = true := by decide +kernel
theorem ax_pn11 : ax_PM ax_m11 := ax_chM_ok ax_pd11 (fun pc h => by show (bif Nat.blt pc 13 then _ else none) = none; rw [h]; rfl)
theorem ax_pd12 : ax_chM ax_m12 34 = true := by decide +kernel
theorem ax_pn12 : ax_PM ax_m12 := ax_chM_ok ax_pd12 (fun pc h => by show (bif Nat.blt pc 34 then _ else none) = none; rw [h]; rfl)
theorem ax_pd13 : ax_chM ax_m13 30 = true := by decide +kernel
theorem ax_pn13 : ax_PM ax_m13 := ax_chM_ok ax_pd13 (fun pc h => by show (bif Nat.blt pc 30 then _ else none) = none; rw [h]; rfl)
theorem ax_pd14 : ax_chM ax_m14 8 = true := by decide +kernel
theorem ax_pn14 : ax_PM ax_m14 := ax_chM_ok ax_pd14 (fun pc h => by show (bif Nat.blt pc 8 then _ else none) = none; rw [h]; rfl)
theorem ax_pd15 : ax_chM ax_m15 16 = true := by decide +kernel
theorem ax_pn15 : ax_PM ax_m15 := ax_chM_ok ax_pd15 (fun pc h => by show (bif Nat.blt pc 16 then _ else none) = none; rw [h]; rfl)
theorem ax_pd16 : ax_chM ax_m16 24 = true := by decide +kernel
theorem ax_pn16 : ax_PM ax_m16 := ax_chM_ok ax_pd16 (fun pc h => by show (bif Nat.blt pc 24 then _ else none) = none; rw [h]; rfl)
theorem ax_pd17 : ax_chM ax_m17 19 = true := by decide +kernel
theorem ax_pn17 : ax_PM ax_m17 := ax_chM_ok ax_pd17 (fun pc h => by show (bif Nat.blt pc 19 then _ else none) = none; rw [h]; rfl)
theorem ax_pd18 : ax_chM ax_m18 65 = true := by decide +kernel
theorem ax_pn18 : ax_PM ax_m18 := ax_chM_ok ax_pd18 (fun pc h => by show (bif Nat.blt pc 65 then _ else none) = none; rw [h]; rfl)
theorem ax_pd19 : ax_chM ax_m19 5 = true := by decide +kernel
theorem ax_pn19 : ax_PM ax_m19 := ax_chM_ok ax_pd19 (fun pc h => by show (bif Nat.blt pc 5 then _ else none) = none; rw [h]; rfl)
theorem ax_pd20 : ax_chM ax_m20 52 = true := by decide +kernel
theorem ax_pn20 : ax_PM ax_m20 := ax_chM_ok ax_pd20 (fun pc h => by show (bif Nat.blt pc 52 then _ else none) = none; rw [h]; rfl)
theorem ax_pd21 : ax_chM ax_m21 64 = true := by decide +kernel
theorem ax_pn21 : ax_PM ax_m21 := ax_chM_ok ax_pd21 (fun pc h => by show (bif Nat.blt pc 64 then _ else none) = none; rw [h]; rfl)
theorem ax_pd22 : ax_chM ax_m22 14 = true := by decide +kernel
theorem ax_pn22 : ax_PM ax_m22 := ax_chM_ok ax_pd22 (fun pc h => by show (bif Nat.blt pc 14 then _ else none) = none; rw [h]; rfl)
theorem ax_pd23 : ax_chM ax_m23 11 = true := by decide +kernel
theorem ax_pn23 : ax_PM ax_m23 := ax_chM_ok ax_pd23 (fun pc h => by show (bif Nat.blt pc 11 then _ else none) = none; rw [h]; rfl)
theorem ax_pd24 : ax_chM ax_m24 133 = true := by decide +kernel
theorem ax_pn24 : ax_PM ax_m24 := ax_chM_ok ax_pd24 (fun pc h => by show (bif Nat.blt pc 133 then _ else none) = none; rw [h]; rfl)
theorem ax_pd25 : ax_chM ax_m25 28 = true := by decide +kernel
theorem ax_pn25 : ax_PM ax_m25 := ax_chM_ok ax_pd25 (fun pc h => by show (bif Nat.blt pc 28 then _ else none) = none; rw [h]; rfl)
theorem ax_pd26 : ax_chM ax_m26 44 = true := by decide +kernel
theorem ax_pn26 : ax_PM ax_m26 := ax_chM_ok ax_pd26 (fun pc h => by show (bif Nat.blt pc 44 then _ else none) = none; rw [h]; rfl)
theorem ax_pd27 : ax_chM ax_m27 19 = true := by decide +kernel
theorem ax_pn27 : ax_PM ax_m27 := ax_chM_ok ax_pd27 (fun pc h => by show (bif Nat.blt pc 19 then _ else none) = none; rw [h]; rfl)
theorem ax_pd28 : ax_chM ax_m28 18 = true := by decide +kernel
theorem ax_pn28 : ax_PM ax_m28 := ax_chM_ok ax_pd28 (fun pc h => by show (bif Nat.blt pc 18 then _ else none) = none; rw [h]; rfl)
theorem ax_pd29 : ax_chM ax_m29 30 = true := by decide +kernel
theorem ax_pn29 : ax_PM ax_m29 := ax_chM_ok ax_pd29 (fun pc h => by show (bif Nat.blt pc 30 then _ else none) = none; rw [h]; rfl)
theorem ax_pd30 : ax_chM ax_m30 5 = true := by decide +kernel
theorem ax_pn30 : ax_PM ax_m30 := ax_chM_ok ax_pd30 (fun pc h => by show (bif Nat.blt pc 5 then _ else none) = none; rw [h]; rfl)
theorem ax_pd31 : ax_chM ax_m31 10 = true := by decide +kernel
theorem ax_pn31 : ax_PM ax_m31 := ax_chM_ok ax_pd31 (fun pc h => by show (bif Nat.blt pc 10 then _ else none) = none; rw [h]; rfl)
theorem ax_pd32 : ax_chM ax_m32 19 = true := by decide +kernel
theorem ax_pn32 : ax_PM ax_m32 := ax_chM_ok ax_pd32 (fun pc h => by show (bif Nat.blt pc 19 then _ else none) = none; rw [h]; rfl)
theorem ax_pd33 : ax_chM ax_m33 37 = true := by decide +kernel
theorem ax_pn33 : ax_PM ax_m33 := ax_chM_ok ax_pd33 (fun pc h => by show (bif Nat.blt pc 37 then _ else none) = none; rw [h]; rfl)
theorem ax_pd34 : ax_chM ax_m34 11 = true := by decide +kernel
theorem ax_pn34 : ax_PM ax_m34 := ax_chM_ok ax_pd34 (fun pc h => by show (bif Nat.blt pc 11 then _ else none) = none; rw [h]; rfl)
theorem ax_pd35 : ax_chM ax_m35 182 = true := by decide +kernel
theorem ax_pn35 : ax_PM ax_m35 := ax_chM_ok ax_pd35 (fun pc h => by show (bif Nat.blt pc 182 then _ else none) = none; rw [h]; rfl)
theorem ax_pd36 : ax_chM ax_m36 94 = true := by decide +kernel
theorem ax_pn36 : ax_PM ax_m36 := ax_chM_ok ax_pd36 (fun pc h => by show (bif Nat.blt pc 94 then _ else none) = none; rw [h]; rfl)
theorem ax_pd37 : ax_chM ax_m37 64 = true := by decide +kernel
theorem ax_pn37 : ax_PM ax_m37 := ax_chM_ok ax_pd37 (fun pc h => by show (bif Nat.blt pc 64 then _ else none) = none; rw [h]; rfl)
theorem ax_pd38 : ax_chM ax_m38 26 = true := by decide +kernel
theorem ax_pn38 : ax_PM ax_m38 := ax_chM_ok ax_pd38 (fun pc h => by show (bif Nat.blt pc 26 then _ else none) = none; rw [h]; rfl)
theorem ax_pd39 : ax_chM ax_m39 10 = true := by decide +kernel
theorem ax_pn39 : ax_PM ax_m39 := ax_chM_ok ax_pd39 (fun pc h => by show (bif Nat.blt pc 10 then _ else none) = none; rw [h]; rfl)
theorem ax_pd40 : ax_chM ax_m40 63 = true := by decide +kernel
theorem ax_pn40 : ax_PM ax_m40 := ax_chM_ok ax_pd40 (fun pc h => by show (bif Nat.blt pc 63 then _ else none) = none; rw [h]; rfl)
theorem ax_pd41 : ax_chM ax_m41 50 = true := by decide +kernel
theorem ax_pn41 : ax_PM ax_m41 := ax_chM_ok ax_pd41 (fun pc h => by show (bif Nat.blt pc 50 then _ else none) = none; rw [h]; rfl)
theorem ax_pd42 : ax_chM ax_m42 7 = true := by decide +kernel
theorem ax_pn42 : ax_PM ax_m42 := ax_chM_ok ax_pd42 (fun pc h => by show (bif Nat.blt pc 7 then _ else none) = none; rw [h]; rfl)
theorem ax_pd43 : ax_chM ax_m43 18 = true := by decide +kernel
theorem ax_pn43 : ax_PM ax_m43 := ax_chM_ok ax_pd43 (fun pc h => by show (bif Nat.blt pc 18 then _ else none) = none; rw [h]; rfl)
theorem ax_pd44 : ax_chM ax_m44 75 = true := by decide +kernel
theorem ax_pn44 : ax_PM ax_m44 := ax_chM_ok ax_pd44 (fun pc h => by show (bif Nat.blt pc 75 then _ else none) = none; rw [h]; rfl)
theorem ax_pd45 : ax_chM ax_m45 18 = true := by decide +kernel
theorem ax_pn45 : ax_PM ax_m45 := ax_chM_ok ax_pd45 (fun pc h => by show (bif Nat.blt pc 18 then _ else none) = none; rw [h]; rfl)
theorem ax_pd46 : ax_chM ax_m46 76 = true := by decide +kernel
theorem ax_pn46 : ax_PM ax_m46 := ax_chM_ok ax_pd46 (fun pc h => by show (bif Nat.blt pc 76 then _ else none) = none; rw [h]; rfl)
theorem ax_pd47 : ax_chM ax_m47 36 = true := by decide +kernel
theorem ax_pn47 : ax_PM ax_m47 := ax_chM_ok ax_pd47 (fun pc h => by show (bif Nat.blt pc 36 then _ else none) = none; rw [h]; rfl)
theorem ax_pd48 : ax_chM ax_m48 129 = true := by decide +kernel
theorem ax_pn48 : ax_PM ax_m48 := ax_chM_ok ax_pd48 (fun pc h => by show (bif Nat.blt pc 129 then _ else none) = none; rw [h]; rfl)
theorem ax_pd49 : ax_chM ax_m49 122 = true := by decide +kernel
theorem ax_pn49 : ax_PM ax_m49 := ax_chM_ok ax_pd49 (fun pc h => by show (bif Nat.blt pc 122 then _ else none) = none; rw [h]; rfl)
theorem ax_pd50 : ax_chM ax_m50 31 = true := by decide +kernel
theorem ax_pn50 : ax_PM ax_m50 := ax_chM_ok ax_pd50 (fun pc h => by show (bif Nat.blt pc 31 then _ else none) = none; rw [h]; rfl)
theorem ax_pd51 : ax_chM ax_m51 43 = true := by decide +kernel
theorem ax_pn51 : ax_PM ax_m51 := ax_chM_ok ax_pd51 (fun pc h => by show (bif Nat.blt pc 43 then _ else none) = none; rw [h]; rfl)
theorem ax_pd52 : ax_chM ax_m52 42 = true := by decide +kernel
theorem ax_pn52 : ax_PM ax_m52 := ax_chM_ok ax_pd52 (fun pc h => by show (bif Nat.blt pc 42 then _ else none) = none; rw [h]; rfl)
theorem ax_pd53 : ax_chM ax_m53 36 = true := by decide +kernel
theorem ax_pn53 : ax_PM ax_m53 := ax_chM_ok ax_pd53 (fun pc h => by show (bif Nat.blt pc 36 then _ else none) = none; rw [h]; rfl)
theorem ax_pd54 : ax_chM ax_m54 26 = true := by decide +kernel
theorem ax_pn54 : ax_PM ax_m54 := ax_chM_ok ax_pd54 (fun pc h => by show (bif Nat.blt pc 26 then _ else none) = none; rw [h]; rfl)
theorem ax_pd55 : ax_chM ax_m55 120 = true := by decide +kernel
theorem ax_pn55 : ax_PM ax_m55 := ax_chM_ok ax_pd55 (fun pc h => by show (bif Nat.blt pc 120 then _ else none) = none; rw [h]; rfl)
theorem ax_pd56 : ax_chM ax_m56 89 = true := by decide +kernel
theorem ax_pn56 : ax_PM ax_m56 := ax_chM_ok ax_pd56 (fun pc h => by show (bif Nat.blt pc 89 then _ else none) = none; rw [h]; rfl)
theorem ax_pd57 : ax_chM ax_m57 66 = true := by decide +kernel
theorem ax_pn57 : ax_PM ax_m57 := ax_chM_ok ax_pd57 (fun pc h => by show (bif Nat.blt pc 66 then _ else none) = none; rw [h]; rfl)
theorem ax_pd58 : ax_chM ax_m58 36 = true := by decide +kernel
theorem ax_pn58 : ax_PM ax_m58 := ax_chM_ok ax_pd58 (fun pc h => by show (bif Nat.blt pc 36 then _ else none) = none; rw [h]; rfl)
theorem ax_pd59 : ax_chM ax_m59 123 = true := by decide +kernel
theorem ax_pn59 : ax_PM ax_m59 := ax_chM_ok ax_pd59 (fun pc h => by show (bif Nat.blt pc 123 then _ else none) = none; rw [h]; rfl)
theorem ax_pd60 : ax_chM ax_m60 29 = true := by decide +kernel
theorem ax_pn60 : ax_PM ax_m60 := ax_chM_ok ax_pd60 (fun pc h => by show (bif Nat.blt pc 29 then _ else none) = none; rw [h]; rfl)
theorem ax_pd61 : ax_chM ax_m61 13 = true := by decide +kernel
theorem ax_pn61 : ax_PM ax_m61 := ax_chM_ok ax_pd61 (fun pc h => by show (bif Nat.blt pc 13 then _ else none) = none; rw [h]; rfl)
theorem ax_pd62 : ax_chM ax_m62 41 = true := by decide +kernel
theorem ax_pn62 : ax_PM ax_m62 := ax_chM_ok ax_pd62 (fun pc h => by show (bif Nat.blt pc 41 then _ else none) = none; rw [h]; rfl)
theorem ax_pd63 : ax_chM ax_m63 5 = true := by decide +kernel
theorem ax_pn63 : ax_PM ax_m63 := ax_chM_ok ax_pd63 (fun pc h => by show (bif Nat.blt pc 5 then _ else none) = none; rw [h]; rfl)
theorem ax_pd64 : ax_chM ax_m64 17 = true := by decide +kernel
theorem ax_pn64 : ax_PM ax_m64 := ax_chM_ok ax_pd64 (fun pc h => by show (bif Nat.blt pc 17 then _ else none) = none; rw [h]; rfl)
theorem ax_pd65 : ax_chM ax_m65 6 = true := by decide +kernel
theorem ax_pn65 : ax_PM ax_m65 := ax_chM_ok ax_pd65 (fun pc h => by show (bif Nat.blt pc 6 then _ else none) = none; rw [h]; rfl)
theorem ax_pd66 : ax_chM ax_m66 109 = true := by decide +kernel
theorem ax_pn66 : ax_PM ax_m66 := ax_chM_ok ax_pd66 (fun pc h => by show (bif Nat.blt pc 109 then _ else none) = none; rw [h]; rfl)
theorem ax_pd67 : ax_chM ax_m67 73 = true := by decide +kernel
theorem ax_pn67 : ax_PM ax_m67 := ax_chM_ok ax_pd67 (fun pc h => by show (bif Nat.blt pc 73 then _ else none) = none; rw [h]; rfl)
theorem ax_pd68 : ax_chM ax_m68 9 = true := by decide +kernel
theorem ax_pn68 : ax_PM ax_m68 := ax_chM_ok ax_pd68 (fun pc h => by show (bif Nat.blt pc 9 then _ else none) = none; rw [h]; rfl)
theorem ax_pd69 : ax_chM ax_m69 76 = true := by decide +kernel
theorem ax_pn69 : ax_PM ax_m69 := ax_chM_ok ax_pd69 (fun pc h => by show (bif Nat.blt pc 76 then _ else none) = none; rw [h]; rfl)
theorem ax_pd70 : ax_chM ax_m70 67 = true := by decide +kernel
theorem ax_pn70 : ax_PM ax_m70 := ax_chM_ok ax_pd70 (fun pc h => by show (bif Nat.blt pc 67 then _ else none) = none; rw [h]; rfl)
theorem ax_pd71 : ax_chM ax_m71 89 = true := by decide +kernel
theorem ax_pn71 : ax_PM ax_m71 := ax_chM_ok ax_pd71 (fun pc h => by show (bif Nat.blt pc 89 then _ else none) = none; rw [h]; rfl)
theorem ax_pd72 : ax_chM ax_m72 21 = true := by decide +kernel
theorem ax_pn72 : ax_PM ax_m72 := ax_chM_ok ax_pd72 (fun pc h => by show (bif Nat.blt pc 21 then _ else none) = none; rw [h]; rfl)
theorem ax_pd73 : ax_chM ax_m73 47 = true := by decide +kernel
theorem ax_pn73 : ax_PM ax_m73 := ax_chM_ok ax_pd73 (fun pc h => by show (bif Nat.blt pc 47 then _ else none) = none; rw [h]; rfl)
theorem ax_pd74 : ax_chM ax_m74 8 = true := by decide +kernel
theorem ax_pn74 : ax_PM ax_m74 := ax_chM_ok ax_pd74 (fun pc h => by show (bif Nat.blt pc 8 then _ else none) = none; rw [h]; rfl)
theorem ax_pd75 : ax_chM ax_m75 34 = true := by decide +kernel
theorem ax_pn75 : ax_PM ax_m75 := ax_chM_ok ax_pd75 (fun pc h => by show (bif Nat.blt pc 34 then _ else none) = none; rw [h]; rfl)
theorem ax_pd76 : ax_chM ax_m76 53 = true := by decide +kernel
theorem ax_pn76 : ax_PM ax_m76 := ax_chM_ok ax_pd76 (fun pc h => by show (bif Nat.blt pc 53 then _ else none) = none; rw [h]; rfl)
theorem ax_pd77 : ax_chM ax_m77 41 = true := by decide +kernel
theorem ax_pn77 : ax_PM ax_m77 := ax_chM_ok ax_pd77 (fun pc h => by show (bif Nat.blt pc 41 then _ else none) = none; rw [h]; rfl)
theorem ax_pd78 : ax_chM ax_m78 107 = true := by decide +kernel
theorem ax_pn78 : ax_PM ax_m78 := ax_chM_ok ax_pd78 (fun pc h => by show (bif Nat.blt pc 107 then _ else none) = none; rw [h]; rfl)
theorem ax_pd79 : ax_chM ax_m79 6 = true := by decide +kernel
theorem ax_pn79 : ax_PM ax_m79 := ax_chM_ok ax_pd79 (fun pc h => by show (bif Nat.blt pc 6 then _ else none) = none; rw [h]; rfl)
theorem ax_pd80 : ax_chM ax_m80 56 = true := by decide +kernel
theorem ax_pn80 : ax_PM ax_m80 := ax_chM_ok ax_pd80 (fun pc h => by show (bif Nat.blt pc 56 then _ else none) = none; rw [h]; rfl)
theorem ax_pd81 : ax_chM ax_m81 29 = true := by decide +kernel
theorem ax_pn81 : ax_PM ax_m81 := ax_chM_ok ax_pd81 (fun pc h => by show (bif Nat.blt pc 29 then _ else none) = none; rw [h]; rfl)
theorem ax_pd82 : ax_chM ax_m82 31 = true := by decide +kernel
theorem ax_pn82 : ax_PM ax_m82 := ax_chM_ok ax_pd82 (fun pc h => by show (bif Nat.blt pc 31 then _ else none) = none; rw [h]; rfl)
theorem ax_pd83 : ax_chM ax_m83 18 = true := by decide +kernel
theorem ax_pn83 : ax_PM ax_m83 := ax_chM_ok ax_pd83 (fun pc h => by show (bif Nat.blt pc 18 then _ else none) = none; rw [h]; rfl)
theorem ax_pd84 : ax_chM ax_m84 38 = true := by decide +kernel
theorem ax_pn84 : ax_PM ax_m84 := ax_chM_ok ax_pd84 (fun pc h => by show (bif Nat.blt pc 38 then _ else none) = none; rw [h]; rfl)
theorem ax_pd85 : ax_chM ax_m85 28 = true := by decide +kernel
theorem ax_pn85 : ax_PM ax_m85 := ax_chM_ok ax_pd85 (fun pc h => by show (bif Nat.blt pc 28 then _ else none) = none; rw [h]; rfl)
theorem ax_pd86 : ax_chM ax_m86 86 = true := by decide +kernel
theorem ax_pn86 : ax_PM ax_m86 := ax_chM_ok ax_pd86 (fun pc h => by show (bif Nat.blt pc 86 then _ else none) = none; rw [h]; rfl)
theorem ax_pd87 : ax_chM ax_m87 37 = true := by decide +kernel
theorem ax_pn87 : ax_PM ax_m87 := ax_chM_ok ax_pd87 (fun pc h => by show (bif Nat.blt pc 37 then _ else none) = none; rw [h]; rfl)
theorem ax_pd88 : ax_chM ax_m88 212 = true := by decide +kernel
theorem ax_pn88 : ax_PM ax_m88 := ax_chM_ok ax_pd88 (fun pc h => by show (bif Nat.blt pc 212 then _ else none) = none; rw [h]; rfl)
theorem ax_pd89 : ax_chM ax_m89 88 = true := by decide +kernel
theorem ax_pn89 : ax_PM ax_m89 := ax_chM_ok ax_pd89 (fun pc h => by show (bif Nat.blt pc 88 then _ else none) = none; rw [h]; rfl)
theorem ax_pd90 : ax_chM ax_m90 228 = true := by decide +kernel
theorem ax_pn90 : ax_PM ax_m90 := ax_chM_ok ax_pd90 (fun pc h => by show (bif Nat.blt pc 228 then _ else none) = none; rw [h]; rfl)
theorem ax_pd91 : ax_chM ax_m91 34 = true := by decide +kernel
theorem ax_pn91 : ax_PM ax_m91 := ax_chM_ok ax_pd91 (fun pc h => by show (bif Nat.blt pc 34 then _ else none) = none; rw [h]; rfl)
theorem ax_pd92 : ax_chM ax_m92 37 = true := by decide +kernel
theorem ax_pn92 : ax_PM ax_m92 := ax_chM_ok ax_pd92 (fun pc h => by show (bif Nat.blt pc 37 then _ else none) = none; rw [h]; rfl)
theorem ax_pd93 : ax_chM ax_m93 45 = true := by decide +kernel
theorem ax_pn93 : ax_PM ax_m93 := ax_chM_ok ax_pd93 (fun pc h => by show (bif Nat.blt pc 45 then _ else none) = none; rw [h]; rfl)
theorem ax_pd94 : ax_chM ax_m94 74 = true := by decide +kernel
theorem ax_pn94 : ax_PM ax_m94 := ax_chM_ok ax_pd94 (fun pc h => by show (bif Nat.blt pc 74 then _ else none) = none; rw [h]; rfl)
theorem ax_pd95 : ax_chM ax_m95 74 = true := by decide +kernel
theorem ax_pn95 : ax_PM ax_m95 := ax_chM_ok ax_pd95 (fun pc h => by show (bif Nat.blt pc 74 then _ else none) = none; rw [h]; rfl)
theorem ax_pd96 : ax_chM ax_m96 21 = true := by decide +kernel
theorem ax_pn96 : ax_PM ax_m96 := ax_chM_ok ax_pd96 (fun pc h => by show (bif Nat.blt pc 21 then _ else none) = none; rw [h]; rfl)
theorem ax_pd97 : ax_chM ax_m97 55 = true := by decide +kernel
theorem ax_pn97 : ax_PM ax_m97 := ax_chM_ok ax_pd97 (fun pc h => by show (bif Nat.blt pc 55 then _ else none) = none; rw [h]; rfl)
theorem ax_pd98 : ax_chM ax_m98 22 = true := by decide +kernel
theorem ax_pn98 : ax_PM ax_m98 := ax_chM_ok ax_pd98 (fun pc h => by show (bif Nat.blt pc 22 then _ else none) = none; rw [h]; rfl)
theorem ax_pd99 : ax_chM ax_m99 102 = true := by decide +kernel
theorem ax_pn99 : ax_PM ax_m99 := ax_chM_ok ax_pd99 (fun pc h => by show (bif Nat.blt pc 102 then _ else none) = none; rw [h]; rfl)
theorem ax_pd100 : ax_chM ax_m100 10 = true := by decide +kernel
theorem ax_pn100 : ax_PM ax_m100 := ax_chM_ok ax_pd100 (fun pc h => by show (bif Nat.blt pc 10 then _ else none) = none; rw [h]; rfl)
theorem ax_pd101 : ax_chM ax_m101 60 = true := by decide +kernel
theorem ax_pn101 : ax_PM ax_m101 := ax_chM_ok ax_pd101 (fun pc h => by show (bif Nat.blt pc 60 then _ else none) = none; rw [h]; rfl)
theorem ax_pd102 : ax_chM ax_m102 68 = true := by decide +kernel
theorem ax_pn102 : ax_PM ax_m102 := ax_chM_ok ax_pd102 (fun pc h => by show (bif Nat.blt pc 68 then _ else none) = none; rw [h]; rfl)
theorem ax_pd103 : ax_chM ax_m103 29 = true := by decide +kernel
theorem ax_pn103 : ax_PM ax_m103 := ax_chM_ok ax_pd103 (fun pc h => by show (bif Nat.blt pc 29 then _ else none) = none; rw [h]; rfl)
theorem ax_pd104 : ax_chM ax_m104 200 = true := by decide +kernel
theorem ax_pn104 : ax_PM ax_m104 := ax_chM_ok ax_pd104 (fun pc h => by show (bif Nat.blt pc 200 then _ else none) = none; rw [h]; rfl)
