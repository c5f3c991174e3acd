/-! the tables are what the Statement says: checked by the kernel, a row at a time -/
def ax_cpl : List Nat := [121, 129, 155, 161, 165, 222, 275, 278, 300, 312, 324, 346, 356, 429, 432, 435, 439, 450, 454, 458, 462, 466, 470, 474, 480, 484, 489, 495, 499, 502, 505, 511, 515, 521, 526, 530, 534, 538, 543, 547, 551, 555, 559, 563, 568, 572, 576, 582, 586, 590, 595, 600, 603, 606, 610, 614, 618, 622, 626, 629, 635, 642, 647, 652, 656, 661, 665, 672, 676, 683, 688, 692, 701, 705, 709, 713, 716, 723, 727, 731, 735, 739, 744, 748, 752, 756, 760, 764, 768, 774, 778, 789, 793, 797, 801, 805, 811, 815, 819, 823, 827, 831, 835, 840, 844, 849, 853, 857, 861, 865, 869, 874, 879, 885, 889, 896, 903, 907, 912, 916, 920, 924, 927, 934, 939, 945, 949, 953, 957, 961, 966, 970, 974, 978, 982, 986, 991, 996, 1001, 1005, 1009, 1016, 1020, 1024, 1028, 1032, 1036, 1040, 1044, 1048, 1053, 1056, 1060, 1066, 1070, 1075, 1080, 1084, 1088, 1092, 1097, 1100, 1104, 1108, 1112, 1116, 1120, 1124, 1128, 1132, 1136, 1140, 1145, 1149, 1153, 1157, 1162, 1289, 1292, 1295, 1299, 1303, 1307, 1311, 1315, 1319, 1323, 1327, 1331, 1335, 1339, 1344, 1348, 1352, 1355, 1358, 1362, 1366, 1370, 1374, 1378, 1382, 1386, 1390, 1394, 1398, 1401, 1405, 1409, 1413, 1417, 1421, 1425, 1429, 1432, 1435, 1439, 1443, 1447, 1451, 1455, 1459, 1463, 1467, 1471, 1475, 1479, 1482, 1486, 1490, 1494, 1498, 1501, 1505, 1509, 1514, 1518, 1522, 1526, 1530, 1534, 1538, 1542, 1546, 1550, 1554, 1558, 1562, 1567, 1571, 1575, 1580, 1584, 1588, 1592, 1596, 1600, 1603, 1607, 1611, 1615, 1619, 1623, 1627, 1631, 1635, 1639, 1643, 1647, 1651, 1655, 1659, 1663, 1667, 1671, 1675, 1679, 1683, 1687, 1691, 1695, 1699, 1703, 1707, 1711, 1715, 0]
def ax_enl : List Nat := [174, 14, 54, 53, 21, 63, 13, 15, 13, 13, 13, 13, 34, 30, 8, 16, 24, 19, 65, 5, 52, 64, 14, 11, 133, 28, 44, 19, 18, 30, 5, 10, 19, 37, 11, 182, 94, 64, 26, 10, 63, 50, 7, 18, 75, 18, 76, 36, 129, 122, 31, 43, 42, 36, 26, 120, 89, 66, 36, 123, 29, 13, 41, 5, 17, 6, 109, 73, 9, 76, 67, 89, 21, 47, 8, 34, 53, 41, 107, 6, 56, 29, 31, 18, 38, 28, 86, 37, 212, 88, 228, 34, 37, 45, 74, 74, 21, 55, 22, 102, 10, 60, 68, 29, 200, 21, 98, 8, 56, 48, 93, 52, 53, 81, 170, 84, 96, 74, 18, 26, 83, 42, 8, 45, 181, 47, 58, 36, 46, 111, 41, 41, 119, 47, 140, 38, 47, 49, 99, 42, 93, 49, 12, 50, 31, 53, 62, 108, 54, 32, 82, 37, 149, 81, 105, 41, 22, 88, 80, 138, 100, 29, 44, 84, 98, 104, 22, 6, 24, 5, 23, 74, 99, 5, 5, 27, 227, 31, 8, 16, 19, 47, 39, 190, 21, 163, 29, 13, 166, 88, 64, 24, 71, 26, 106, 53, 60, 26, 34, 221, 99, 40, 74, 45, 30, 140, 22, 209, 54, 88, 116, 82, 264, 28, 11, 11, 104, 50, 20, 22, 52, 430, 77, 34, 42, 91, 240, 97, 50, 132, 22, 60, 15, 56, 20, 61, 56, 108, 138, 49, 102, 26, 136, 92, 97, 39, 58, 33, 50, 10, 40, 9, 199, 61, 75, 33, 147, 26, 34, 76, 37, 32, 50, 63, 60, 43, 97, 11, 126, 63, 151, 11, 121, 106, 27, 191, 89, 245, 59, 175, 84, 24, 25, 22, 60, 116, 1082]
theorem ax_fst {α : Type} {l : List (Nat × α)} {x : Nat} {q : Nat × α} (h : l.find? (fun q => Nat.beq q.1 x) = some q) : q.1 = x := by
  have h1 := List.find?_some (p := fun q : Nat × α => Nat.beq q.1 x) h
  exact Nat.eq_of_beq_eq_true h1
def ax_is (q : Nat) (w : Jvm.Cond) : Bool := decide (lw_tbl[q]? = some w) && goodWord w
theorem ax_is_in {q : Nat} {w : Jvm.Cond} (h : ax_is q w = true) : w ∈ ax_tb := by
  unfold ax_is at h
  simp only [Bool.and_eq_true, decide_eq_true_eq] at h
  exact ax_tb_in (List.mem_of_getElem? h.1) h.2
def ax_chF (o x q ci j q2 : Nat) : Bool := match lw_tbl[q]?, ax_cl[ci]? with
  | some (.fieldLink a b r n d), some (_, T, N) => decide (a = ax_on o) && decide (b = x) && decide (n = (T j).2.1) && decide (d = (T j).2.2.1) && Nat.blt j N && (decide ((T j).1 = r) || ax_is q2 (.sameField r (T j).1 (T j).2.1 (T j).2.2.1))
  | _, _ => false
theorem ax_chF_ok {o x q ci j q2 : Nat} (h : ax_chF o x q ci j q2 = true) : ax_FOK o x ci j := by
  unfold ax_chF at h
  split at h
  · rename_i a b r n d C T N h1 h2
    simp only [Bool.and_eq_true, decide_eq_true_eq, Bool.or_eq_true] at h
    obtain ⟨⟨⟨⟨⟨e1, e2⟩, e3⟩, e4⟩, e5⟩, e6⟩ := h
    subst e1; subst e2; subst e3; subst e4
    exact ⟨C, T, N, r, h2, ax_blt e5, ax_tb_in (List.mem_of_getElem? h1) rfl, e6.imp id ax_is_in⟩
  · cases h
theorem ax_fll_ok : (List.range 17).all (fun o => (ax_fll.getD o []).all (fun q => q.2.2.all (fun e => ax_chF o q.1 q.2.1 e.1 e.2.1 e.2.2))) = true := by decide +kernel
theorem ax_getD_len {α : Type} {l : List (List α)} {n o : Nat} (hl : l.length = n) (ho : ¬ o < n) : l.getD o [] = [] := by
  rw [List.getD_eq_getElem?_getD, List.getElem?_eq_none (by omega)]
  rfl
theorem ax_T1 : ∀ o x ci j, ax_fl o x ci = some j → ax_FOK o x ci j := by
  intro o x ci j h
  unfold ax_fl at h
  split at h
  · rename_i q hq
    split at h
    · rename_i r hr
      cases h
      by_cases ho : o < 17
      · have h1 := List.all_eq_true.mp ax_fll_ok o (List.mem_range.mpr ho)
        have h2 := List.all_eq_true.mp h1 q (List.mem_of_find?_eq_some hq)
        have h3 := List.all_eq_true.mp h2 r (List.mem_of_find?_eq_some hr)
        have hx := ax_fst hq
        have hc := ax_fst hr
        rw [hx, hc] at h3
        exact ax_chF_ok h3
      · rw [ax_getD_len (n := 17) rfl ho] at hq
        cases hq
    · cases h
  · cases h
def ax_chK (ty : FieldType) (k : Nat) : Bool := match k, ty with
  | 0, .int => true
  | 1, .boolean => true
  | 2, .object _ => true
  | 2, .array _ => true
  | _, _ => false
theorem ax_chK_ok {ty : FieldType} {k : Nat} (h : ax_chK ty k = true) : ax_KT ty k := by
  unfold ax_chK at h
  split at h
  · rfl
  · rfl
  · exact Or.inl ⟨_, rfl⟩
  · exact Or.inr ⟨_, rfl⟩
  · cases h
def ax_chC (ci : Nat) (r : vw_C) : Bool := (u_ws r.1 r.2.1 r.2.2).all (fun w => decide (w ∈ lw_tbl) && goodWord w) && (List.range r.2.2).all (fun k => decide (parseFieldDescriptor (r.2.1 k).2.2.1 = some (ax_ty ci k)) && ax_chK (ax_ty ci k) (ax_kd ci k) && (List.range r.2.2).all (fun j => decide (k = j) || decide ((r.2.1 k).2.1 ≠ (r.2.1 j).2.1))) && decide (Jvm.Cond.instantiable r.1 r.2.2 ∈ lw_tbl) && Nat.beq (ax_kdl.getD ci []).length r.2.2
theorem ax_cl_ok : (List.range 12).all (fun ci => match ax_cl[ci]? with
  | some r => ax_chC ci r
  | none => false) = true := by decide +kernel
theorem ax_T2 : ∀ ci C T N, ax_cl[ci]? = some (C, T, N) → ax_COK ci C T N ∧ (ax_kdl.getD ci []).length = N := by
  intro ci C T N h
  have hlt : ci < 12 := (List.getElem?_eq_some_iff.mp h).1
  have h1 := List.all_eq_true.mp ax_cl_ok ci (List.mem_range.mpr hlt)
  rw [h] at h1
  simp only [ax_chC, Bool.and_eq_true, decide_eq_true_eq, List.all_eq_true, List.mem_range, Bool.or_eq_true] at h1
  obtain ⟨⟨⟨h2, h3⟩, h4⟩, h5⟩ := h1
  exact ⟨⟨fun w hw => ax_tb_in (h2 w hw).1 (h2 w hw).2, fun k hk => (h3 k hk).1.1, fun a ha b hb hab => ((h3 a ha).2 b hb).resolve_left hab, fun k hk => ax_chK_ok (h3 k hk).1.2, ax_tb_in h4 rfl⟩, Nat.eq_of_beq_eq_true h5⟩
theorem ax_sh_ok : (List.range ax_NT).all (fun k => match ax_sh k with
  | .inl ci => Nat.blt ci 12
  | .inr q => Nat.blt q.1 3 && Nat.ble q.2 4096) = true := by decide +kernel
theorem ax_sh_out {k : Nat} (h : ¬ k < ax_NT) : ax_sh k = .inr (9, 0) := by
  unfold ax_sh
  rw [List.getD_eq_getElem?_getD, List.getElem?_eq_none (by show ax_NT ≤ k; omega)]
  rfl
theorem ax_T3 : ∀ k ci, ax_sh k = .inl ci → k < ax_NT ∧ ∃ C T N, ax_cl[ci]? = some (C, T, N) := by
  intro k ci h
  by_cases hk : k < ax_NT
  · have h1 := List.all_eq_true.mp ax_sh_ok k (List.mem_range.mpr hk)
    rw [h] at h1
    refine ⟨hk, ?_⟩
    have h2 : ci < ax_cl.length := ax_blt h1
    exact ⟨_, _, _, List.getElem?_eq_getElem h2⟩
  · rw [ax_sh_out hk] at h
    cases h
theorem ax_T4 : ∀ k t n, ax_sh k = .inr (t, n) → t < 3 → k < ax_NT ∧ n ≤ 4096 := by
  intro k t n h ht
  by_cases hk : k < ax_NT
  · have h1 := List.all_eq_true.mp ax_sh_ok k (List.mem_range.mpr hk)
    rw [h] at h1
    simp only [Bool.and_eq_true] at h1
    exact ⟨hk, Nat.le_of_ble_eq_true h1.2⟩
  · rw [ax_sh_out hk] at h
    cases h
    exact absurd ht (by decide)
theorem ax_hT3 : ∀ k t n, ax_sh k = .inr (t, n) → t < 3 ∨ t = 9 := by
  intro k t n h
  by_cases hk : k < ax_NT
  · have h1 := List.all_eq_true.mp ax_sh_ok k (List.mem_range.mpr hk)
    rw [h] at h1
    simp only [Bool.and_eq_true] at h1
    exact Or.inl (ax_blt h1.1)
  · rw [ax_sh_out hk] at h
    cases h
    exact Or.inr rfl
theorem ax_rf_ok : ax_rfl.all (fun r => r.all (fun j => Nat.blt j 1000)) = true := by decide +kernel
theorem ax_T5 : ∀ k j, ax_rf k j < 1000 := by
  intro k j
  unfold ax_rf
  rw [List.getD_eq_getElem?_getD, List.getD_eq_getElem?_getD]
  cases h : ax_rfl[k]? with
  | none => simp
  | some r =>
    simp only [Option.getD_some]
    cases h2 : r[j]? with
    | none => simp
    | some z => exact ax_blt (List.all_eq_true.mp (List.all_eq_true.mp ax_rf_ok r (List.mem_of_getElem? h)) z (List.mem_of_getElem? h2))
theorem ax_kc_ok : (List.range 17).all (fun o => (ax_kcl.getD o []).all (fun q => ax_is q.2.2 (.constant (ax_on o) q.1 q.2.1))) = true := by decide +kernel
theorem ax_T6 : ∀ o x v, ax_kc o x = some v → Jvm.Cond.constant (ax_on o) x v ∈ ax_tb := by
  intro o x v h
  unfold ax_kc at h
  split at h
  · rename_i q hq
    cases h
    by_cases ho : o < 17
    · have h1 := List.all_eq_true.mp (List.all_eq_true.mp ax_kc_ok o (List.mem_range.mpr ho)) q (List.mem_of_find?_eq_some hq)
      rw [← ax_fst hq]
      exact ax_is_in h1
    · rw [ax_getD_len (n := 17) rfl ho] at hq
      cases hq
  · cases h
theorem ax_kl_ok : ax_kll.all (fun q => ax_is q.2.2.2 (.constantLong (ax_on q.1) q.2.1 q.2.2.1)) = true := by decide +kernel
theorem ax_T7 : ∀ o x v, ax_kl o x = some v → Jvm.Cond.constantLong (ax_on o) x v ∈ ax_tb := by
  intro o x v h
  unfold ax_kl at h
  split at h
  · rename_i q hq
    cases h
    have h1 := List.all_eq_true.mp ax_kl_ok q (List.mem_of_find?_eq_some hq)
    have h2 := List.find?_some hq
    simp only [Bool.and_eq_true] at h2
    rw [← Nat.eq_of_beq_eq_true h2.1, ← Nat.eq_of_beq_eq_true h2.2]
    exact ax_is_in h1
  · cases h
theorem ax_nw_ok : (List.range 17).all (fun o => (ax_nwl.getD o []).all (fun q => match ax_cl[q.2.1]? with
  | some r => ax_is q.2.2.1 (.classLink (ax_on o) q.1 r.1) && ax_is q.2.2.2.2 (.initialized r.1)
  | none => false)) = true := by decide +kernel
theorem ax_T8 : ∀ o x ci C T N, ax_nw o x = some ci → ax_cl[ci]? = some (C, T, N) → Jvm.Cond.classLink (ax_on o) x C ∈ ax_tb ∧ Jvm.Cond.initialized C ∈ ax_tb := by
  intro o x ci C T N h hc
  unfold ax_nw at h
  split at h
  · rename_i q hq
    cases h
    by_cases ho : o < 17
    · have h1 := List.all_eq_true.mp (List.all_eq_true.mp ax_nw_ok o (List.mem_range.mpr ho)) q (List.mem_of_find?_eq_some hq)
      rw [hc] at h1
      simp only [Bool.and_eq_true] at h1
      rw [← ax_fst hq]
      exact ⟨ax_is_in h1.1, ax_is_in h1.2⟩
    · rw [ax_getD_len (n := 17) rfl ho] at hq
      cases hq
  · cases h
def ax_ars : List (Nat × Nat) := [(0, 150), (1, 1285), (2, 270)]
theorem ax_ars_ok : ax_ars.all (fun q => ax_is q.2 (.arrayClass (ax_tya q.1))) = true := by decide +kernel
theorem ax_T9 : ∀ t, t < 3 → Jvm.Cond.arrayClass (ax_tya t) ∈ ax_tb := by
  intro t ht
  match t, ht with
  | 0, _ => exact ax_is_in (List.all_eq_true.mp ax_ars_ok ((0, 150)) (by decide))
  | 1, _ => exact ax_is_in (List.all_eq_true.mp ax_ars_ok ((1, 1285)) (by decide))
  | 2, _ => exact ax_is_in (List.all_eq_true.mp ax_ars_ok ((2, 270)) (by decide))
def ax_noMH (c : String) : Bool := decide (c ≠ "java/lang/invoke/MethodHandle") && decide (c ≠ "java/lang/invoke/VarHandle")
theorem ax_noMH_ok {c : String} (h : ax_noMH c = true) : c ≠ "java/lang/invoke/MethodHandle" ∧ c ≠ "java/lang/invoke/VarHandle" := by
  unfold ax_noMH at h
  simpa only [Bool.and_eq_true, decide_eq_true_eq] using h
def ax_chP (y : MethodName) (n : Nat) : Bool := decide ((parseMethodDescriptor y.desc).map (fun d => d.parameters.length) = some n)
theorem ax_chP_ok {y : MethodName} {n : Nat} (h : ax_chP y n = true) : ax_par y n := by
  unfold ax_chP at h
  unfold ax_par
  exact of_decide_eq_true h
/-- a method's own row -/
def ax_chN (ν : Nat) : Bool := ax_is (ax_cpl.getD ν 0) (.code (ax_md ν).1 (ax_md ν).2.1 (ax_md ν).2.2.1 (ax_md ν).2.2.2.1) && Nat.ble (ax_md ν).2.2.1 60 && ax_noMH (ax_md ν).1.cls
theorem ax_chN_ok {ν : Nat} (h : ax_chN ν = true) : ax_NOK ν := by
  unfold ax_chN at h
  simp only [Bool.and_eq_true] at h
  exact ⟨ax_is_in h.1.1, Nat.le_of_ble_eq_true h.1.2, ax_noMH_ok h.2⟩
/-- a call's row -/
def ax_chE (o x n k p0 : Nat) (e : Nat × Nat × Nat × Nat × Nat × Nat) : Bool := Nat.blt e.2.1 286 && (match k with
  | 0 => ax_chP (ax_md e.2.1).1 n && ax_is p0 (.methodLink (ax_on o) x (ax_md e.2.1).1) && ax_is e.2.2.1 (.static (ax_md e.2.1).1) && ax_is e.2.2.2.1 (.initialized (ax_md e.2.1).1.cls)
  | 1 => (match ax_cl[e.1]? with
    | some r => decide ((ax_md e.2.1).1.cls = r.1) && ax_chP (ax_md e.2.1).1 n && ax_is p0 (.methodLink (ax_on o) x (ax_md e.2.1).1) && ax_is e.2.2.1 (.instanceMethod (ax_md e.2.1).1) && ax_is e.2.2.2.1 (.selects r.1 (ax_md e.2.1).1 (ax_md e.2.1).1) && ax_is e.2.2.2.2.1 (.initialized r.1)
    | none => false)
  | 4 => decide ((ax_md e.2.1).2.2.2.1 = none) && decide ((ax_md e.2.1).1.name = "<init>") && ax_chP (ax_md e.2.1).1 n && ax_is p0 (.methodLink (ax_on o) x (ax_md e.2.1).1) && ax_is e.2.2.1 (.instanceMethod (ax_md e.2.1).1) && ax_is e.2.2.2.1 (.initialized (ax_md e.2.1).1.cls)
  | 5 => (match ax_nl[p0]? with
    | some q => decide (q = (ax_on o, x, (ax_md e.2.1).1, q.2.2.2)) && ax_chP (ax_md e.2.1).1 n && ax_is e.2.2.1 (.static (ax_md e.2.1).1) && ax_is e.2.2.2.1 (.initialized (ax_md e.2.1).1.cls)
    | none => false)
  | 6 => (match ax_nl[p0]? with
    | some q => decide (q = (ax_on o, x, (ax_md e.2.1).1, q.2.2.2)) && decide ((ax_md e.2.1).2.2.2.1 = none) && decide ((ax_md e.2.1).1.name = "<init>") && ax_chP (ax_md e.2.1).1 n && ax_is e.2.2.1 (.instanceMethod (ax_md e.2.1).1) && ax_is e.2.2.2.1 (.initialized (ax_md e.2.1).1.cls)
    | none => false)
  | 7 => (match lw_tbl[p0]? with
    | some (.methodLink _ _ z) => decide ((ax_md e.2.1).1 = ⟨(ax_md e.2.1).1.cls, z.name, z.desc⟩) && ax_chP z n && ax_noMH (ax_md e.2.1).1.cls && ax_is p0 (.methodLink (ax_on o) x z) && ax_is e.2.2.2.2.1 (.sameMethod z.cls (ax_md e.2.1).1.cls z.name z.desc) && ax_is e.2.2.1 (.static (ax_md e.2.1).1) && ax_is e.2.2.2.1 (.initialized (ax_md e.2.1).1.cls)
    | _ => false)
  | _ => (Nat.beq k 2 || Nat.beq k 3) && (match lw_tbl[p0]? with
    | some (.methodLink _ _ z) => (match ax_cl[e.1]? with
      | some r => (match lw_tbl[e.2.2.1]? with
        | some (.sameMethod _ owner _ _) => (decide ((ax_md e.2.1).1 = ⟨owner, z.name, z.desc⟩) || decide ((⟨owner, z.name, z.desc⟩ : MethodName) ∈ ax_dl)) && ax_chP z n && ax_noMH owner && ax_is p0 (.methodLink (ax_on o) x z) && ax_is e.2.2.1 (.sameMethod z.cls owner z.name z.desc) && ax_is e.2.2.2.1 (.selects r.1 z (ax_md e.2.1).1) && ax_is e.2.2.2.2.1 (.instanceMethod (ax_md e.2.1).1) && ax_is e.2.2.2.2.2 (.initialized (ax_md e.2.1).1.cls)
        | _ => false)
      | none => false)
    | _ => false))
