/-! THE CONSTRUCTORS: closed runs while cells are made -/
def iH (c : Nat) (f : Nat → Nat → Int32) (l : List (Nat → Int32)) : Prop := l.length = c ∧ ∀ k, k < c → f k = l.getD k (fun _ => (0 : Int32))
theorem i_w {c a j : Nat} {f : Nat → Nat → Int32} {g : Nat → Nat → Int64} {l : List (Nat → Int32)} {x : Int32} (h : iH c f l) (ha : a < c) : ∃ f2, ax_sI (c, f, g) a j x = (c, f2, g) ∧ iH c f2 (l.set a (upd (l.getD a (fun _ => (0 : Int32))) j x)) := by
  refine ⟨_, rfl, by rw [List.length_set]; exact h.1, fun k hk => ?_⟩
  show ax_up f a (upd (f a) j x) k = _
  rw [List.getD_eq_getElem?_getD, List.getElem?_set]
  unfold ax_up
  by_cases e : k = a
  · subst e
    rw [if_pos rfl, if_pos rfl, if_pos (by rw [h.1]; exact hk), h.2 k hk]
    rfl
  · rw [if_neg e, if_neg (fun e2 => e e2.symm), h.2 k hk, List.getD_eq_getElem?_getD]
theorem i_n {c : Nat} {f : Nat → Nat → Int32} {l : List (Nat → Int32)} (h : iH c f l) (g : Nat → Nat → Int64) : ∃ f2 g2, ax_nc (c, f, g) = (c + 1, f2, g2) ∧ iH (c + 1) f2 (l ++ [(fun _ => (0 : Int32))]) := by
  refine ⟨_, _, rfl, by rw [List.length_append, h.1]; rfl, fun k hk => ?_⟩
  show ax_up f c (fun _ => 0) k = _
  rw [List.getD_eq_getElem?_getD]
  unfold ax_up
  by_cases e : k = c
  · subst e
    rw [if_pos rfl, List.getElem?_append_right (by rw [h.1]; exact Nat.le_refl _), h.1, Nat.sub_self]
    rfl
  · rw [if_neg e, h.2 k (by omega), List.getElem?_append_left (by rw [h.1]; omega), List.getD_eq_getElem?_getD]
theorem i_r {c a j : Nat} {f : Nat → Nat → Int32} {l : List (Nat → Int32)} (h : iH c f l) (ha : a < c) (e : l.getD a (fun _ => (0 : Int32)) j ≠ 0) : f a j ≠ 0 := by
  rw [h.2 a ha]; exact e
theorem i_ev {d nu c c2 : Nat} {args : List Value} {f : Nat → Nat → Int32} {g : Nat → Nat → Int64} {P : (Nat → Nat → Int32) → Prop} (he : (ax_en args).length ≤ (ax_md nu).2.2.1) (h : ∃ f2 g2, ax_go false none (ax_ev false d) (ax_md nu) 0 (ax_lc (ax_md nu) args) [] (c, f, g) (none, (c2, f2, g2)) ∧ P f2) : ∃ f2 g2, ax_ev false (d + 1) nu args (c, f, g) (none, (c2, f2, g2)) ∧ P f2 := by
  obtain ⟨f2, g2, h1, h2⟩ := h
  exact ⟨f2, g2, ⟨he, h1⟩, h2⟩
theorem ax_cutE {X : ax_X} {E : ax_E} {M : ax_M} {pc pc' c2 : Nat} {ls la : ax_L} (lc : ax_L) {st st' : List Value} {σ σ' : ax_S} {P : (Nat → Nat → Int32) → Prop} (k : Nat) (hle : ax_le lc la) (h : ∀ o n, ax_run false X E M n pc' la st' σ' o → ax_run false X E M (n + k) pc ls st σ o) (g : ∃ f2 g2, ax_go false X E M pc' lc st' σ' (none, (c2, f2, g2)) ∧ P f2) : ∃ f2 g2, ax_go false X E M pc ls st σ (none, (c2, f2, g2)) ∧ P f2 := by
  obtain ⟨f2, g2, ⟨n, hn⟩, h2⟩ := g
  exact ⟨f2, g2, ⟨n + k, h _ n (ax_run_le n _ _ _ _ _ _ hle hn)⟩, h2⟩
theorem ax_endF {X : ax_X} {E : ax_E} {M : ax_M} {pc : Nat} {ls : ax_L} {st : List Value} {σ : ax_S} {o : ax_O} (k : Nat) (h : ax_run false X E M k pc ls st σ o) : ax_go false X E M pc ls st σ o := ⟨k, h⟩
def iL_1 : List (Nat → Int32) := [(fun _ => (0 : Int32))]
def iL_2 : List (Nat → Int32) := iL_1 ++ [(fun _ => (0 : Int32))]
def iL_3 : List (Nat → Int32) := iL_2 ++ [(fun _ => (0 : Int32))]
def iL_4 : List (Nat → Int32) := iL_3.set 1 (upd (iL_3.getD 1 (fun _ => (0 : Int32))) 0 1)
def iL_5 : List (Nat → Int32) := iL_4.set 0 (upd (iL_4.getD 0 (fun _ => (0 : Int32))) 0 1)
def iL_6 : List (Nat → Int32) := iL_5 ++ [(fun _ => (0 : Int32))]
def iL_7 : List (Nat → Int32) := iL_6 ++ [(fun _ => (0 : Int32))]
def iL_8 : List (Nat → Int32) := iL_7 ++ [(fun _ => (0 : Int32))]
def iL_9 : List (Nat → Int32) := iL_8.set 4 (upd (iL_8.getD 4 (fun _ => (0 : Int32))) 0 1)
def iL_10 : List (Nat → Int32) := iL_9 ++ [(fun _ => (0 : Int32))]
def iL_11 : List (Nat → Int32) := iL_10.set 4 (upd (iL_10.getD 4 (fun _ => (0 : Int32))) 1 1)
def iL_12 : List (Nat → Int32) := iL_11 ++ [(fun _ => (0 : Int32))]
def iL_13 : List (Nat → Int32) := iL_12.set 4 (upd (iL_12.getD 4 (fun _ => (0 : Int32))) 2 1)
def iL_14 : List (Nat → Int32) := iL_13 ++ [(fun _ => (0 : Int32))]
def iL_15 : List (Nat → Int32) := iL_14.set 4 (upd (iL_14.getD 4 (fun _ => (0 : Int32))) 3 1)
def iL_16 : List (Nat → Int32) := iL_15 ++ [(fun _ => (0 : Int32))]
def iL_17 : List (Nat → Int32) := iL_16.set 4 (upd (iL_16.getD 4 (fun _ => (0 : Int32))) 4 1)
def iL_18 : List (Nat → Int32) := iL_17.set 5 (upd (iL_17.getD 5 (fun _ => (0 : Int32))) 0 (-1 : Int32))
def iL_19 : List (Nat → Int32) := iL_18.set 5 (upd (iL_18.getD 5 (fun _ => (0 : Int32))) 1 (-1 : Int32))
def iL_20 : List (Nat → Int32) := iL_19.set 5 (upd (iL_19.getD 5 (fun _ => (0 : Int32))) 2 (-1 : Int32))
def iL_21 : List (Nat → Int32) := iL_20.set 5 (upd (iL_20.getD 5 (fun _ => (0 : Int32))) 3 (-1 : Int32))
def iL_22 : List (Nat → Int32) := iL_21.set 5 (upd (iL_21.getD 5 (fun _ => (0 : Int32))) 4 (-1 : Int32))
def iL_23 : List (Nat → Int32) := iL_22.set 5 (upd (iL_22.getD 5 (fun _ => (0 : Int32))) 5 (-1 : Int32))
def iL_24 : List (Nat → Int32) := iL_23.set 5 (upd (iL_23.getD 5 (fun _ => (0 : Int32))) 6 (-1 : Int32))
def iL_25 : List (Nat → Int32) := iL_24.set 5 (upd (iL_24.getD 5 (fun _ => (0 : Int32))) 7 (-1 : Int32))
def iL_26 : List (Nat → Int32) := iL_25.set 5 (upd (iL_25.getD 5 (fun _ => (0 : Int32))) 8 (-1 : Int32))
def iL_27 : List (Nat → Int32) := iL_26.set 5 (upd (iL_26.getD 5 (fun _ => (0 : Int32))) 9 (-1 : Int32))
def iL_28 : List (Nat → Int32) := iL_27.set 5 (upd (iL_27.getD 5 (fun _ => (0 : Int32))) 10 (-1 : Int32))
def iL_29 : List (Nat → Int32) := iL_28.set 5 (upd (iL_28.getD 5 (fun _ => (0 : Int32))) 11 (-1 : Int32))
def iL_30 : List (Nat → Int32) := iL_29.set 3 (upd (iL_29.getD 3 (fun _ => (0 : Int32))) 0 1)
def iL_31 : List (Nat → Int32) := iL_30 ++ [(fun _ => (0 : Int32))]
def iL_32 : List (Nat → Int32) := iL_31.set 3 (upd (iL_31.getD 3 (fun _ => (0 : Int32))) 1 1)
def iL_33 : List (Nat → Int32) := iL_32 ++ [(fun _ => (0 : Int32))]
def iL_34 : List (Nat → Int32) := iL_33.set 3 (upd (iL_33.getD 3 (fun _ => (0 : Int32))) 2 1)
def iL_35 : List (Nat → Int32) := iL_34 ++ [(fun _ => (0 : Int32))]
def iL_36 : List (Nat → Int32) := iL_35.set 3 (upd (iL_35.getD 3 (fun _ => (0 : Int32))) 3 1)
def iL_37 : List (Nat → Int32) := iL_36 ++ [(fun _ => (0 : Int32))]
def iL_38 : List (Nat → Int32) := iL_37.set 3 (upd (iL_37.getD 3 (fun _ => (0 : Int32))) 4 1)
def iL_39 : List (Nat → Int32) := iL_38.set 3 (upd (iL_38.getD 3 (fun _ => (0 : Int32))) 6 (1 : Int32))
def iL_40 : List (Nat → Int32) := iL_39.set 0 (upd (iL_39.getD 0 (fun _ => (0 : Int32))) 1 1)
def iL_41 : List (Nat → Int32) := iL_40 ++ [(fun _ => (0 : Int32))]
def iL_42 : List (Nat → Int32) := iL_41 ++ [(fun _ => (0 : Int32))]
def iL_43 : List (Nat → Int32) := iL_42 ++ [(fun _ => (0 : Int32))]
def iL_44 : List (Nat → Int32) := iL_43.set 15 (upd (iL_43.getD 15 (fun _ => (0 : Int32))) 0 1)
def iL_45 : List (Nat → Int32) := iL_44 ++ [(fun _ => (0 : Int32))]
def iL_46 : List (Nat → Int32) := iL_45.set 15 (upd (iL_45.getD 15 (fun _ => (0 : Int32))) 1 1)
def iL_47 : List (Nat → Int32) := iL_46 ++ [(fun _ => (0 : Int32))]
def iL_48 : List (Nat → Int32) := iL_47.set 15 (upd (iL_47.getD 15 (fun _ => (0 : Int32))) 2 1)
def iL_49 : List (Nat → Int32) := iL_48 ++ [(fun _ => (0 : Int32))]
def iL_50 : List (Nat → Int32) := iL_49.set 15 (upd (iL_49.getD 15 (fun _ => (0 : Int32))) 3 1)
def iL_51 : List (Nat → Int32) := iL_50 ++ [(fun _ => (0 : Int32))]
def iL_52 : List (Nat → Int32) := iL_51.set 15 (upd (iL_51.getD 15 (fun _ => (0 : Int32))) 4 1)
def iL_53 : List (Nat → Int32) := iL_52.set 16 (upd (iL_52.getD 16 (fun _ => (0 : Int32))) 0 (-1 : Int32))
def iL_54 : List (Nat → Int32) := iL_53.set 16 (upd (iL_53.getD 16 (fun _ => (0 : Int32))) 1 (-1 : Int32))
def iL_55 : List (Nat → Int32) := iL_54.set 16 (upd (iL_54.getD 16 (fun _ => (0 : Int32))) 2 (-1 : Int32))
def iL_56 : List (Nat → Int32) := iL_55.set 16 (upd (iL_55.getD 16 (fun _ => (0 : Int32))) 3 (-1 : Int32))
def iL_57 : List (Nat → Int32) := iL_56.set 16 (upd (iL_56.getD 16 (fun _ => (0 : Int32))) 4 (-1 : Int32))
def iL_58 : List (Nat → Int32) := iL_57.set 16 (upd (iL_57.getD 16 (fun _ => (0 : Int32))) 5 (-1 : Int32))
def iL_59 : List (Nat → Int32) := iL_58.set 16 (upd (iL_58.getD 16 (fun _ => (0 : Int32))) 6 (-1 : Int32))
def iL_60 : List (Nat → Int32) := iL_59.set 16 (upd (iL_59.getD 16 (fun _ => (0 : Int32))) 7 (-1 : Int32))
def iL_61 : List (Nat → Int32) := iL_60.set 16 (upd (iL_60.getD 16 (fun _ => (0 : Int32))) 8 (-1 : Int32))
def iL_62 : List (Nat → Int32) := iL_61.set 16 (upd (iL_61.getD 16 (fun _ => (0 : Int32))) 9 (-1 : Int32))
def iL_63 : List (Nat → Int32) := iL_62.set 16 (upd (iL_62.getD 16 (fun _ => (0 : Int32))) 10 (-1 : Int32))
def iL_64 : List (Nat → Int32) := iL_63.set 16 (upd (iL_63.getD 16 (fun _ => (0 : Int32))) 11 (-1 : Int32))
def iL_65 : List (Nat → Int32) := iL_64.set 14 (upd (iL_64.getD 14 (fun _ => (0 : Int32))) 0 1)
def iL_66 : List (Nat → Int32) := iL_65 ++ [(fun _ => (0 : Int32))]
def iL_67 : List (Nat → Int32) := iL_66.set 14 (upd (iL_66.getD 14 (fun _ => (0 : Int32))) 1 1)
def iL_68 : List (Nat → Int32) := iL_67 ++ [(fun _ => (0 : Int32))]
def iL_69 : List (Nat → Int32) := iL_68.set 14 (upd (iL_68.getD 14 (fun _ => (0 : Int32))) 2 1)
def iL_70 : List (Nat → Int32) := iL_69 ++ [(fun _ => (0 : Int32))]
def iL_71 : List (Nat → Int32) := iL_70.set 14 (upd (iL_70.getD 14 (fun _ => (0 : Int32))) 3 1)
def iL_72 : List (Nat → Int32) := iL_71 ++ [(fun _ => (0 : Int32))]
def iL_73 : List (Nat → Int32) := iL_72.set 14 (upd (iL_72.getD 14 (fun _ => (0 : Int32))) 4 1)
def iL_74 : List (Nat → Int32) := iL_73.set 14 (upd (iL_73.getD 14 (fun _ => (0 : Int32))) 6 (1 : Int32))
def iL_75 : List (Nat → Int32) := iL_74.set 0 (upd (iL_74.getD 0 (fun _ => (0 : Int32))) 2 1)
def iL_76 : List (Nat → Int32) := iL_75 ++ [(fun _ => (0 : Int32))]
def iL_77 : List (Nat → Int32) := iL_76 ++ [(fun _ => (0 : Int32))]
def iL_78 : List (Nat → Int32) := iL_77 ++ [(fun _ => (0 : Int32))]
def iL_79 : List (Nat → Int32) := iL_78.set 26 (upd (iL_78.getD 26 (fun _ => (0 : Int32))) 0 1)
def iL_80 : List (Nat → Int32) := iL_79 ++ [(fun _ => (0 : Int32))]
def iL_81 : List (Nat → Int32) := iL_80.set 26 (upd (iL_80.getD 26 (fun _ => (0 : Int32))) 1 1)
def iL_82 : List (Nat → Int32) := iL_81 ++ [(fun _ => (0 : Int32))]
def iL_83 : List (Nat → Int32) := iL_82.set 26 (upd (iL_82.getD 26 (fun _ => (0 : Int32))) 2 1)
def iL_84 : List (Nat → Int32) := iL_83 ++ [(fun _ => (0 : Int32))]
def iL_85 : List (Nat → Int32) := iL_84.set 26 (upd (iL_84.getD 26 (fun _ => (0 : Int32))) 3 1)
def iL_86 : List (Nat → Int32) := iL_85 ++ [(fun _ => (0 : Int32))]
def iL_87 : List (Nat → Int32) := iL_86.set 26 (upd (iL_86.getD 26 (fun _ => (0 : Int32))) 4 1)
def iL_88 : List (Nat → Int32) := iL_87.set 27 (upd (iL_87.getD 27 (fun _ => (0 : Int32))) 0 (-1 : Int32))
def iL_89 : List (Nat → Int32) := iL_88.set 27 (upd (iL_88.getD 27 (fun _ => (0 : Int32))) 1 (-1 : Int32))
def iL_90 : List (Nat → Int32) := iL_89.set 27 (upd (iL_89.getD 27 (fun _ => (0 : Int32))) 2 (-1 : Int32))
def iL_91 : List (Nat → Int32) := iL_90.set 27 (upd (iL_90.getD 27 (fun _ => (0 : Int32))) 3 (-1 : Int32))
def iL_92 : List (Nat → Int32) := iL_91.set 27 (upd (iL_91.getD 27 (fun _ => (0 : Int32))) 4 (-1 : Int32))
def iL_93 : List (Nat → Int32) := iL_92.set 27 (upd (iL_92.getD 27 (fun _ => (0 : Int32))) 5 (-1 : Int32))
def iL_94 : List (Nat → Int32) := iL_93.set 27 (upd (iL_93.getD 27 (fun _ => (0 : Int32))) 6 (-1 : Int32))
def iL_95 : List (Nat → Int32) := iL_94.set 27 (upd (iL_94.getD 27 (fun _ => (0 : Int32))) 7 (-1 : Int32))
def iL_96 : List (Nat → Int32) := iL_95.set 27 (upd (iL_95.getD 27 (fun _ => (0 : Int32))) 8 (-1 : Int32))
def iL_97 : List (Nat → Int32) := iL_96.set 27 (upd (iL_96.getD 27 (fun _ => (0 : Int32))) 9 (-1 : Int32))
def iL_98 : List (Nat → Int32) := iL_97.set 27 (upd (iL_97.getD 27 (fun _ => (0 : Int32))) 10 (-1 : Int32))
def iL_99 : List (Nat → Int32) := iL_98.set 27 (upd (iL_98.getD 27 (fun _ => (0 : Int32))) 11 (-1 : Int32))
def iL_100 : List (Nat → Int32) := iL_99.set 25 (upd (iL_99.getD 25 (fun _ => (0 : Int32))) 0 1)
def iL_101 : List (Nat → Int32) := iL_100 ++ [(fun _ => (0 : Int32))]
def iL_102 : List (Nat → Int32) := iL_101.set 25 (upd (iL_101.getD 25 (fun _ => (0 : Int32))) 1 1)
def iL_103 : List (Nat → Int32) := iL_102 ++ [(fun _ => (0 : Int32))]
def iL_104 : List (Nat → Int32) := iL_103.set 25 (upd (iL_103.getD 25 (fun _ => (0 : Int32))) 2 1)
def iL_105 : List (Nat → Int32) := iL_104 ++ [(fun _ => (0 : Int32))]
def iL_106 : List (Nat → Int32) := iL_105.set 25 (upd (iL_105.getD 25 (fun _ => (0 : Int32))) 3 1)
def iL_107 : List (Nat → Int32) := iL_106 ++ [(fun _ => (0 : Int32))]
def iL_108 : List (Nat → Int32) := iL_107.set 25 (upd (iL_107.getD 25 (fun _ => (0 : Int32))) 4 1)
def iL_109 : List (Nat → Int32) := iL_108.set 25 (upd (iL_108.getD 25 (fun _ => (0 : Int32))) 6 (1 : Int32))
def iL_110 : List (Nat → Int32) := iL_109.set 0 (upd (iL_109.getD 0 (fun _ => (0 : Int32))) 3 1)
def iL_111 : List (Nat → Int32) := iL_110 ++ [(fun _ => (0 : Int32))]
def iL_112 : List (Nat → Int32) := iL_111 ++ [(fun _ => (0 : Int32))]
def iL_113 : List (Nat → Int32) := iL_112.set 36 (upd (iL_112.getD 36 (fun _ => (0 : Int32))) 0 1)
def iL_114 : List (Nat → Int32) := iL_113 ++ [(fun _ => (0 : Int32))]
def iL_115 : List (Nat → Int32) := iL_114.set 36 (upd (iL_114.getD 36 (fun _ => (0 : Int32))) 1 1)
def iL_116 : List (Nat → Int32) := iL_115 ++ [(fun _ => (0 : Int32))]
def iL_117 : List (Nat → Int32) := iL_116.set 36 (upd (iL_116.getD 36 (fun _ => (0 : Int32))) 2 1)
def iL_118 : List (Nat → Int32) := iL_117 ++ [(fun _ => (0 : Int32))]
def iL_119 : List (Nat → Int32) := iL_118.set 36 (upd (iL_118.getD 36 (fun _ => (0 : Int32))) 3 1)
def iL_120 : List (Nat → Int32) := iL_119 ++ [(fun _ => (0 : Int32))]
def iL_121 : List (Nat → Int32) := iL_120.set 36 (upd (iL_120.getD 36 (fun _ => (0 : Int32))) 4 1)
def iL_122 : List (Nat → Int32) := iL_121 ++ [(fun _ => (0 : Int32))]
def iL_123 : List (Nat → Int32) := iL_122.set 36 (upd (iL_122.getD 36 (fun _ => (0 : Int32))) 5 1)
def iL_124 : List (Nat → Int32) := iL_123 ++ [(fun _ => (0 : Int32))]
def iL_125 : List (Nat → Int32) := iL_124.set 36 (upd (iL_124.getD 36 (fun _ => (0 : Int32))) 6 1)
def iL_126 : List (Nat → Int32) := iL_125.set 0 (upd (iL_125.getD 0 (fun _ => (0 : Int32))) 4 1)
def iL_127 : List (Nat → Int32) := iL_126 ++ [(fun _ => (0 : Int32))]
def iL_128 : List (Nat → Int32) := iL_127 ++ [(fun _ => (0 : Int32))]
def iL_129 : List (Nat → Int32) := iL_128.set 44 (upd (iL_128.getD 44 (fun _ => (0 : Int32))) 0 1)
def iL_130 : List (Nat → Int32) := iL_129 ++ [(fun _ => (0 : Int32))]
def iL_131 : List (Nat → Int32) := iL_130.set 44 (upd (iL_130.getD 44 (fun _ => (0 : Int32))) 1 1)
def iL_132 : List (Nat → Int32) := iL_131 ++ [(fun _ => (0 : Int32))]
def iL_133 : List (Nat → Int32) := iL_132.set 44 (upd (iL_132.getD 44 (fun _ => (0 : Int32))) 2 1)
def iL_134 : List (Nat → Int32) := iL_133 ++ [(fun _ => (0 : Int32))]
def iL_135 : List (Nat → Int32) := iL_134.set 44 (upd (iL_134.getD 44 (fun _ => (0 : Int32))) 3 1)
def iL_136 : List (Nat → Int32) := iL_135 ++ [(fun _ => (0 : Int32))]
def iL_137 : List (Nat → Int32) := iL_136.set 44 (upd (iL_136.getD 44 (fun _ => (0 : Int32))) 4 1)
def iL_138 : List (Nat → Int32) := iL_137 ++ [(fun _ => (0 : Int32))]
def iL_139 : List (Nat → Int32) := iL_138.set 44 (upd (iL_138.getD 44 (fun _ => (0 : Int32))) 5 1)
def iL_140 : List (Nat → Int32) := iL_139 ++ [(fun _ => (0 : Int32))]
def iL_141 : List (Nat → Int32) := iL_140.set 44 (upd (iL_140.getD 44 (fun _ => (0 : Int32))) 6 1)
def iL_142 : List (Nat → Int32) := iL_141.set 0 (upd (iL_141.getD 0 (fun _ => (0 : Int32))) 5 1)
def iL_143 : List (Nat → Int32) := iL_142 ++ [(fun _ => (0 : Int32))]
def iL_144 : List (Nat → Int32) := iL_143.set 52 (upd (iL_143.getD 52 (fun _ => (0 : Int32))) 0 1)
def iL_145 : List (Nat → Int32) := iL_144.set 52 (upd (iL_144.getD 52 (fun _ => (0 : Int32))) 1 (12 : Int32))
def iL_146 : List (Nat → Int32) := iL_145.set 52 (upd (iL_145.getD 52 (fun _ => (0 : Int32))) 2 1)
def iL_147 : List (Nat → Int32) := iL_146.set 0 (upd (iL_146.getD 0 (fun _ => (0 : Int32))) 6 1)
def iL_148 : List (Nat → Int32) := iL_147 ++ [(fun _ => (0 : Int32))]
def iL_149 : List (Nat → Int32) := iL_148.set 53 (upd (iL_148.getD 53 (fun _ => (0 : Int32))) 0 1)
def iL_150 : List (Nat → Int32) := iL_149.set 53 (upd (iL_149.getD 53 (fun _ => (0 : Int32))) 1 (20 : Int32))
def iL_151 : List (Nat → Int32) := iL_150.set 53 (upd (iL_150.getD 53 (fun _ => (0 : Int32))) 2 1)
def iL_152 : List (Nat → Int32) := iL_151.set 0 (upd (iL_151.getD 0 (fun _ => (0 : Int32))) 7 1)
def iL_153 : List (Nat → Int32) := iL_152 ++ [(fun _ => (0 : Int32))]
def iL_154 : List (Nat → Int32) := iL_153.set 54 (upd (iL_153.getD 54 (fun _ => (0 : Int32))) 0 1)
def iL_155 : List (Nat → Int32) := iL_154.set 54 (upd (iL_154.getD 54 (fun _ => (0 : Int32))) 1 (16 : Int32))
def iL_156 : List (Nat → Int32) := iL_155.set 54 (upd (iL_155.getD 54 (fun _ => (0 : Int32))) 2 1)
def iL_157 : List (Nat → Int32) := iL_156.set 0 (upd (iL_156.getD 0 (fun _ => (0 : Int32))) 8 1)
def iL_158 : List (Nat → Int32) := iL_157 ++ [(fun _ => (0 : Int32))]
def iL_159 : List (Nat → Int32) := iL_158 ++ [(fun _ => (0 : Int32))]
def iL_160 : List (Nat → Int32) := iL_159.set 55 (upd (iL_159.getD 55 (fun _ => (0 : Int32))) 0 1)
def iL_161 : List (Nat → Int32) := iL_160.set 0 (upd (iL_160.getD 0 (fun _ => (0 : Int32))) 9 1)
def iL_162 : List (Nat → Int32) := iL_161 ++ [(fun _ => (0 : Int32))]
def iL_163 : List (Nat → Int32) := iL_162 ++ [(fun _ => (0 : Int32))]
def iL_164 : List (Nat → Int32) := iL_163.set 57 (upd (iL_163.getD 57 (fun _ => (0 : Int32))) 0 1)
def iL_165 : List (Nat → Int32) := iL_164.set 0 (upd (iL_164.getD 0 (fun _ => (0 : Int32))) 10 1)
def iL_166 : List (Nat → Int32) := iL_165 ++ [(fun _ => (0 : Int32))]
def iL_167 : List (Nat → Int32) := iL_166 ++ [(fun _ => (0 : Int32))]
def iL_168 : List (Nat → Int32) := iL_167.set 59 (upd (iL_167.getD 59 (fun _ => (0 : Int32))) 1 1)
def iL_169 : List (Nat → Int32) := iL_168 ++ [(fun _ => (0 : Int32))]
def iL_170 : List (Nat → Int32) := iL_169.set 59 (upd (iL_169.getD 59 (fun _ => (0 : Int32))) 2 1)
def iL_171 : List (Nat → Int32) := iL_170 ++ [(fun _ => (0 : Int32))]
def iL_172 : List (Nat → Int32) := iL_171.set 59 (upd (iL_171.getD 59 (fun _ => (0 : Int32))) 3 1)
def iL_173 : List (Nat → Int32) := iL_172.set 59 (upd (iL_172.getD 59 (fun _ => (0 : Int32))) 0 1)
def iL_174 : List (Nat → Int32) := iL_173.set 0 (upd (iL_173.getD 0 (fun _ => (0 : Int32))) 11 1)
def iL_175 : List (Nat → Int32) := iL_174.set 0 (upd (iL_174.getD 0 (fun _ => (0 : Int32))) 12 (50 : Int32))
def iL_176 : List (Nat → Int32) := iL_175 ++ [(fun _ => (0 : Int32))]
def iL_177 : List (Nat → Int32) := iL_176 ++ [(fun _ => (0 : Int32))]
def iL_178 : List (Nat → Int32) := iL_177.set 63 (upd (iL_177.getD 63 (fun _ => (0 : Int32))) 0 1)
def iL_179 : List (Nat → Int32) := iL_178 ++ [(fun _ => (0 : Int32))]
def iL_180 : List (Nat → Int32) := iL_179.set 63 (upd (iL_179.getD 63 (fun _ => (0 : Int32))) 1 1)
def iL_181 : List (Nat → Int32) := iL_180 ++ [(fun _ => (0 : Int32))]
def iL_182 : List (Nat → Int32) := iL_181.set 63 (upd (iL_181.getD 63 (fun _ => (0 : Int32))) 2 1)
def iL_183 : List (Nat → Int32) := iL_182 ++ [(fun _ => (0 : Int32))]
def iL_184 : List (Nat → Int32) := iL_183.set 63 (upd (iL_183.getD 63 (fun _ => (0 : Int32))) 4 1)
def iL_185 : List (Nat → Int32) := iL_184 ++ [(fun _ => (0 : Int32))]
def iL_186 : List (Nat → Int32) := iL_185.set 63 (upd (iL_185.getD 63 (fun _ => (0 : Int32))) 15 1)
def iL_187 : List (Nat → Int32) := iL_186 ++ [(fun _ => (0 : Int32))]
def iL_188 : List (Nat → Int32) := iL_187.set 63 (upd (iL_187.getD 63 (fun _ => (0 : Int32))) 16 1)
def iL_189 : List (Nat → Int32) := iL_188 ++ [(fun _ => (0 : Int32))]
def iL_190 : List (Nat → Int32) := iL_189.set 63 (upd (iL_189.getD 63 (fun _ => (0 : Int32))) 17 1)
def iL_191 : List (Nat → Int32) := iL_190 ++ [(fun _ => (0 : Int32))]
def iL_192 : List (Nat → Int32) := iL_191.set 63 (upd (iL_191.getD 63 (fun _ => (0 : Int32))) 18 1)
def iL_193 : List (Nat → Int32) := iL_192 ++ [(fun _ => (0 : Int32))]
def iL_194 : List (Nat → Int32) := iL_193.set 63 (upd (iL_193.getD 63 (fun _ => (0 : Int32))) 19 1)
def iL_195 : List (Nat → Int32) := iL_194 ++ [(fun _ => (0 : Int32))]
def iL_196 : List (Nat → Int32) := iL_195.set 63 (upd (iL_195.getD 63 (fun _ => (0 : Int32))) 20 1)
def iL_197 : List (Nat → Int32) := iL_196 ++ [(fun _ => (0 : Int32))]
def iL_198 : List (Nat → Int32) := iL_197.set 63 (upd (iL_197.getD 63 (fun _ => (0 : Int32))) 21 1)
def iL_199 : List (Nat → Int32) := iL_198 ++ [(fun _ => (0 : Int32))]
def iL_200 : List (Nat → Int32) := iL_199.set 63 (upd (iL_199.getD 63 (fun _ => (0 : Int32))) 22 1)
def iL_201 : List (Nat → Int32) := iL_200 ++ [(fun _ => (0 : Int32))]
def iL_202 : List (Nat → Int32) := iL_201.set 63 (upd (iL_201.getD 63 (fun _ => (0 : Int32))) 23 1)
def iL_203 : List (Nat → Int32) := iL_202 ++ [(fun _ => (0 : Int32))]
def iL_204 : List (Nat → Int32) := iL_203.set 63 (upd (iL_203.getD 63 (fun _ => (0 : Int32))) 24 1)
def iL_205 : List (Nat → Int32) := iL_204 ++ [(fun _ => (0 : Int32))]
def iL_206 : List (Nat → Int32) := iL_205.set 63 (upd (iL_205.getD 63 (fun _ => (0 : Int32))) 25 1)
def iL_207 : List (Nat → Int32) := iL_206 ++ [(fun _ => (0 : Int32))]
def iL_208 : List (Nat → Int32) := iL_207.set 63 (upd (iL_207.getD 63 (fun _ => (0 : Int32))) 26 1)
def iL_209 : List (Nat → Int32) := iL_208 ++ [(fun _ => (0 : Int32))]
def iL_210 : List (Nat → Int32) := iL_209.set 63 (upd (iL_209.getD 63 (fun _ => (0 : Int32))) 27 1)
def iL_211 : List (Nat → Int32) := iL_210 ++ [(fun _ => (0 : Int32))]
def iL_212 : List (Nat → Int32) := iL_211.set 63 (upd (iL_211.getD 63 (fun _ => (0 : Int32))) 37 1)
def iL_213 : List (Nat → Int32) := iL_212 ++ [(fun _ => (0 : Int32))]
def iL_214 : List (Nat → Int32) := iL_213.set 63 (upd (iL_213.getD 63 (fun _ => (0 : Int32))) 38 1)
def iL_215 : List (Nat → Int32) := iL_214.set 64 (upd (iL_214.getD 64 (fun _ => (0 : Int32))) 290 (1 : Int32))
def iL_216 : List (Nat → Int32) := iL_215.set 63 (upd (iL_215.getD 63 (fun _ => (0 : Int32))) 3 (50 : Int32))
def iL_217 : List (Nat → Int32) := iL_216.set 64 (upd (iL_216.getD 64 (fun _ => (0 : Int32))) 0 (-1 : Int32))
def iL_218 : List (Nat → Int32) := iL_217.set 64 (upd (iL_217.getD 64 (fun _ => (0 : Int32))) 1 (-1 : Int32))
def iL_219 : List (Nat → Int32) := iL_218.set 64 (upd (iL_218.getD 64 (fun _ => (0 : Int32))) 2 (-1 : Int32))
def iL_220 : List (Nat → Int32) := iL_219.set 64 (upd (iL_219.getD 64 (fun _ => (0 : Int32))) 3 (-1 : Int32))
def iL_221 : List (Nat → Int32) := iL_220.set 64 (upd (iL_220.getD 64 (fun _ => (0 : Int32))) 4 (-1 : Int32))
def iL_222 : List (Nat → Int32) := iL_221.set 64 (upd (iL_221.getD 64 (fun _ => (0 : Int32))) 5 (-1 : Int32))
def iL_223 : List (Nat → Int32) := iL_222.set 64 (upd (iL_222.getD 64 (fun _ => (0 : Int32))) 6 (-1 : Int32))
def iL_224 : List (Nat → Int32) := iL_223.set 64 (upd (iL_223.getD 64 (fun _ => (0 : Int32))) 7 (-1 : Int32))
def iL_225 : List (Nat → Int32) := iL_224.set 64 (upd (iL_224.getD 64 (fun _ => (0 : Int32))) 8 (-1 : Int32))
def iL_226 : List (Nat → Int32) := iL_225.set 64 (upd (iL_225.getD 64 (fun _ => (0 : Int32))) 9 (-1 : Int32))
def iL_227 : List (Nat → Int32) := iL_226.set 64 (upd (iL_226.getD 64 (fun _ => (0 : Int32))) 10 (-1 : Int32))
def iL_228 : List (Nat → Int32) := iL_227.set 64 (upd (iL_227.getD 64 (fun _ => (0 : Int32))) 11 (-1 : Int32))
def iL_229 : List (Nat → Int32) := iL_228.set 64 (upd (iL_228.getD 64 (fun _ => (0 : Int32))) 92 (-1 : Int32))
def iL_230 : List (Nat → Int32) := iL_229.set 64 (upd (iL_229.getD 64 (fun _ => (0 : Int32))) 93 (-1 : Int32))
def iL_231 : List (Nat → Int32) := iL_230.set 64 (upd (iL_230.getD 64 (fun _ => (0 : Int32))) 94 (-1 : Int32))
def iL_232 : List (Nat → Int32) := iL_231.set 64 (upd (iL_231.getD 64 (fun _ => (0 : Int32))) 95 (-1 : Int32))
def iL_233 : List (Nat → Int32) := iL_232.set 64 (upd (iL_232.getD 64 (fun _ => (0 : Int32))) 96 (-1 : Int32))
def iL_234 : List (Nat → Int32) := iL_233.set 64 (upd (iL_233.getD 64 (fun _ => (0 : Int32))) 97 (-1 : Int32))
def iL_235 : List (Nat → Int32) := iL_234.set 64 (upd (iL_234.getD 64 (fun _ => (0 : Int32))) 98 (-1 : Int32))
def iL_236 : List (Nat → Int32) := iL_235.set 64 (upd (iL_235.getD 64 (fun _ => (0 : Int32))) 99 (-1 : Int32))
def iL_237 : List (Nat → Int32) := iL_236.set 64 (upd (iL_236.getD 64 (fun _ => (0 : Int32))) 100 (-1 : Int32))
def iL_238 : List (Nat → Int32) := iL_237.set 64 (upd (iL_237.getD 64 (fun _ => (0 : Int32))) 101 (-1 : Int32))
def iL_239 : List (Nat → Int32) := iL_238.set 64 (upd (iL_238.getD 64 (fun _ => (0 : Int32))) 102 (-1 : Int32))
def iL_240 : List (Nat → Int32) := iL_239.set 64 (upd (iL_239.getD 64 (fun _ => (0 : Int32))) 103 (-1 : Int32))
def iL_241 : List (Nat → Int32) := iL_240.set 64 (upd (iL_240.getD 64 (fun _ => (0 : Int32))) 104 (-1 : Int32))
def iL_242 : List (Nat → Int32) := iL_241.set 64 (upd (iL_241.getD 64 (fun _ => (0 : Int32))) 105 (-1 : Int32))
def iL_243 : List (Nat → Int32) := iL_242.set 64 (upd (iL_242.getD 64 (fun _ => (0 : Int32))) 106 (-1 : Int32))
def iL_244 : List (Nat → Int32) := iL_243.set 64 (upd (iL_243.getD 64 (fun _ => (0 : Int32))) 107 (-1 : Int32))
