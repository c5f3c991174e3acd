def L_law_j168 (xL : Nat) (xs : Nat → Int32) (x3 : Int32)  (s : ax_S) : Option ((ax_S) ⊕ (Int32 × ax_S)) :=
  if ((x3 + (1 : Int32)) < 0 ∨ xL ≤ ((x3 + (1 : Int32))).toNatClampNeg) then none else
  if ((x3 + (2 : Int32)) < 0 ∨ xL ≤ ((x3 + (2 : Int32))).toNatClampNeg) then none else
  match X_pain (xs ((x3 + (1 : Int32))).toNatClampNeg) (xs ((x3 + (2 : Int32))).toNatClampNeg) s with
  | none => none
  | some (v1, s2) =>
    if ((x3 + (1 : Int32)) < 0 ∨ xL ≤ ((x3 + (1 : Int32))).toNatClampNeg) then none else
    if ((x3 + (2 : Int32)) < 0 ∨ xL ≤ ((x3 + (2 : Int32))).toNatClampNeg) then none else
    match M_pain (xs ((x3 + (1 : Int32))).toNatClampNeg) (xs ((x3 + (2 : Int32))).toNatClampNeg) s2 with
    | none => none
    | some (v3, s4) =>
      if v1 = v3 then (
        some (.inl s4)) else
      some (.inr ((0 : Int32), s4))
def L_law_j201 (xL : Nat) (xs : Nat → Int32) (x3 : Int32)  (s : ax_S) : Option ((ax_S) ⊕ (Int32 × ax_S)) :=
  if ((x3 + (1 : Int32)) < 0 ∨ xL ≤ ((x3 + (1 : Int32))).toNatClampNeg) then none else
  if ((x3 + (1 : Int32)) < 0 ∨ xL ≤ ((x3 + (1 : Int32))).toNatClampNeg) then none else
  if (X_bound (xs ((x3 + (1 : Int32))).toNatClampNeg) s).1 = (M_bound (xs ((x3 + (1 : Int32))).toNatClampNeg) (X_bound (xs ((x3 + (1 : Int32))).toNatClampNeg) s).2).1 then (
    some (.inl (M_bound (xs ((x3 + (1 : Int32))).toNatClampNeg) (X_bound (xs ((x3 + (1 : Int32))).toNatClampNeg) s).2).2)) else
  some (.inr ((0 : Int32), (M_bound (xs ((x3 + (1 : Int32))).toNatClampNeg) (X_bound (xs ((x3 + (1 : Int32))).toNatClampNeg) s).2).2))
def L_law_j224 (xL : Nat) (xs : Nat → Int32) (x3 : Int32)  (s : ax_S) : Option ((ax_S) ⊕ (Int32 × ax_S)) :=
  if ((x3 + (1 : Int32)) < 0 ∨ xL ≤ ((x3 + (1 : Int32))).toNatClampNeg) then none else
  if ((x3 + (2 : Int32)) < 0 ∨ xL ≤ ((x3 + (2 : Int32))).toNatClampNeg) then none else
  if ((x3 + (3 : Int32)) < 0 ∨ xL ≤ ((x3 + (3 : Int32))).toNatClampNeg) then none else
  if ((x3 + (4 : Int32)) < 0 ∨ xL ≤ ((x3 + (4 : Int32))).toNatClampNeg) then none else
  if ((x3 + (5 : Int32)) < 0 ∨ xL ≤ ((x3 + (5 : Int32))).toNatClampNeg) then none else
  match X_feed (xs ((x3 + (1 : Int32))).toNatClampNeg) (xs ((x3 + (2 : Int32))).toNatClampNeg) (xs ((x3 + (3 : Int32))).toNatClampNeg) (xs ((x3 + (4 : Int32))).toNatClampNeg) (xs ((x3 + (5 : Int32))).toNatClampNeg) s with
  | none => none
  | some (v7, s8) =>
    if ((x3 + (1 : Int32)) < 0 ∨ xL ≤ ((x3 + (1 : Int32))).toNatClampNeg) then none else
    if ((x3 + (2 : Int32)) < 0 ∨ xL ≤ ((x3 + (2 : Int32))).toNatClampNeg) then none else
    if ((x3 + (3 : Int32)) < 0 ∨ xL ≤ ((x3 + (3 : Int32))).toNatClampNeg) then none else
    if ((x3 + (4 : Int32)) < 0 ∨ xL ≤ ((x3 + (4 : Int32))).toNatClampNeg) then none else
    if ((x3 + (5 : Int32)) < 0 ∨ xL ≤ ((x3 + (5 : Int32))).toNatClampNeg) then none else
    match M_feed (xs ((x3 + (1 : Int32))).toNatClampNeg) (xs ((x3 + (2 : Int32))).toNatClampNeg) (xs ((x3 + (3 : Int32))).toNatClampNeg) (xs ((x3 + (4 : Int32))).toNatClampNeg) (xs ((x3 + (5 : Int32))).toNatClampNeg) s8 with
    | none => none
    | some (v9, s10) =>
      if v7 = v9 then (
        some (.inl s10)) else
      some (.inr ((0 : Int32), s10))
def L_law_j287 (xL : Nat) (xs : Nat → Int32) (x3 : Int32)  (s : ax_S) : Option ((ax_S) ⊕ (Int32 × ax_S)) :=
  if ((x3 + (1 : Int32)) < 0 ∨ xL ≤ ((x3 + (1 : Int32))).toNatClampNeg) then none else
  match X_law (xs ((x3 + (1 : Int32))).toNatClampNeg) s with
  | none => none
  | some (v12, s13) =>
    if ((x3 + (1 : Int32)) < 0 ∨ xL ≤ ((x3 + (1 : Int32))).toNatClampNeg) then none else
    match M_law (xs ((x3 + (1 : Int32))).toNatClampNeg) s13 with
    | none => none
    | some (v14, s15) =>
      if v12 = v14 then (
        some (.inl s15)) else
      some (.inr ((0 : Int32), s15))
def L_law_j310 (xL : Nat) (xs : Nat → Int32) (x3 : Int32)  (s : ax_S) : Option ((ax_S) ⊕ (Int32 × ax_S)) :=
  if ((x3 + (1 : Int32)) < 0 ∨ xL ≤ ((x3 + (1 : Int32))).toNatClampNeg) then none else
  match X_print (xs ((x3 + (1 : Int32))).toNatClampNeg) s with
  | none => none
  | some (v17, s18) =>
    if ((x3 + (1 : Int32)) < 0 ∨ xL ≤ ((x3 + (1 : Int32))).toNatClampNeg) then none else
    match M_print (xs ((x3 + (1 : Int32))).toNatClampNeg) s18 with
    | none => none
    | some (v19, s20) =>
      if v17 = v19 then (
        some (.inl s20)) else
      some (.inr ((0 : Int32), s20))
def L_law_j333 (xL : Nat) (xs : Nat → Int32) (x3 : Int32)  (s : ax_S) : Option ((ax_S) ⊕ (Int32 × ax_S)) :=
  if ((x3 + (1 : Int32)) < 0 ∨ xL ≤ ((x3 + (1 : Int32))).toNatClampNeg) then none else
  match X_edits (xs ((x3 + (1 : Int32))).toNatClampNeg) s with
  | none => none
  | some (v22, s23) =>
    if ((x3 + (1 : Int32)) < 0 ∨ xL ≤ ((x3 + (1 : Int32))).toNatClampNeg) then none else
    match M_edits (xs ((x3 + (1 : Int32))).toNatClampNeg) s23 with
    | none => none
    | some (v24, s25) =>
      if v22 = v24 then (
        some (.inl s25)) else
      some (.inr ((0 : Int32), s25))
def L_law_j356 (xL : Nat) (xs : Nat → Int32) (x3 : Int32)  (s : ax_S) : Option ((ax_S) ⊕ (Int32 × ax_S)) :=
  match X_mirror s with
  | none => none
  | some (v27, s28) =>
    match M_mirror s28 with
    | none => none
    | some (v29, s30) =>
      if v27 = v29 then (
        some (.inl s30)) else
      some (.inr ((0 : Int32), s30))
def L_law_j369 (xL : Nat) (xs : Nat → Int32) (x3 : Int32)  (s : ax_S) : Option ((ax_S) ⊕ (Int32 × ax_S)) :=
  if ((x3 + (1 : Int32)) < 0 ∨ xL ≤ ((x3 + (1 : Int32))).toNatClampNeg) then none else
  match X_days (xs ((x3 + (1 : Int32))).toNatClampNeg) s with
  | none => none
  | some (v32, s33) =>
    if ((x3 + (1 : Int32)) < 0 ∨ xL ≤ ((x3 + (1 : Int32))).toNatClampNeg) then none else
    match M_days (xs ((x3 + (1 : Int32))).toNatClampNeg) s33 with
    | none => none
    | some (v34, s35) =>
      if v32 = v34 then (
        some (.inl s35)) else
      some (.inr ((0 : Int32), s35))
def L_law_j392 (xL : Nat) (xs : Nat → Int32) (x3 : Int32)  (s : ax_S) : Option ((ax_S) ⊕ (Int32 × ax_S)) :=
  if ((x3 + (1 : Int32)) < 0 ∨ xL ≤ ((x3 + (1 : Int32))).toNatClampNeg) then none else
  if ((x3 + (2 : Int32)) < 0 ∨ xL ≤ ((x3 + (2 : Int32))).toNatClampNeg) then none else
  match X_tried (xs ((x3 + (1 : Int32))).toNatClampNeg) (xs ((x3 + (2 : Int32))).toNatClampNeg) s with
  | none => none
  | some (v37, s38) =>
    if ((x3 + (1 : Int32)) < 0 ∨ xL ≤ ((x3 + (1 : Int32))).toNatClampNeg) then none else
    if ((x3 + (2 : Int32)) < 0 ∨ xL ≤ ((x3 + (2 : Int32))).toNatClampNeg) then none else
    match M_tried (xs ((x3 + (1 : Int32))).toNatClampNeg) (xs ((x3 + (2 : Int32))).toNatClampNeg) s38 with
    | none => none
    | some (v39, s40) =>
      if v37 = v39 then (
        some (.inl s40)) else
      some (.inr ((0 : Int32), s40))
def L_law_j425 (xL : Nat) (xs : Nat → Int32) (x3 : Int32)  (s : ax_S) : Option ((ax_S) ⊕ (Int32 × ax_S)) :=
  if ((x3 + (1 : Int32)) < 0 ∨ xL ≤ ((x3 + (1 : Int32))).toNatClampNeg) then none else
  if ((x3 + (2 : Int32)) < 0 ∨ xL ≤ ((x3 + (2 : Int32))).toNatClampNeg) then none else
  match X_figureIs (xs ((x3 + (1 : Int32))).toNatClampNeg) (xs ((x3 + (2 : Int32))).toNatClampNeg) s with
  | none => none
  | some (v42, s43) =>
    if ((x3 + (1 : Int32)) < 0 ∨ xL ≤ ((x3 + (1 : Int32))).toNatClampNeg) then none else
    if ((x3 + (2 : Int32)) < 0 ∨ xL ≤ ((x3 + (2 : Int32))).toNatClampNeg) then none else
    match M_figureIs (xs ((x3 + (1 : Int32))).toNatClampNeg) (xs ((x3 + (2 : Int32))).toNatClampNeg) s43 with
    | none => none
    | some v44 =>
      if v42 = v44 then (
        some (.inl s43)) else
      some (.inr ((0 : Int32), s43))
def L_law_j458 (xL : Nat) (xs : Nat → Int32) (x3 : Int32)  (s : ax_S) : Option ((ax_S) ⊕ (Int32 × ax_S)) :=
  if ((x3 + (1 : Int32)) < 0 ∨ xL ≤ ((x3 + (1 : Int32))).toNatClampNeg) then none else
  if ((x3 + (2 : Int32)) < 0 ∨ xL ≤ ((x3 + (2 : Int32))).toNatClampNeg) then none else
  match X_personIs (xs ((x3 + (1 : Int32))).toNatClampNeg) (xs ((x3 + (2 : Int32))).toNatClampNeg) s with
  | none => none
  | some (v46, s47) =>
    if ((x3 + (1 : Int32)) < 0 ∨ xL ≤ ((x3 + (1 : Int32))).toNatClampNeg) then none else
    if ((x3 + (2 : Int32)) < 0 ∨ xL ≤ ((x3 + (2 : Int32))).toNatClampNeg) then none else
    match M_personIs (xs ((x3 + (1 : Int32))).toNatClampNeg) (xs ((x3 + (2 : Int32))).toNatClampNeg) s47 with
    | none => none
    | some v48 =>
      if v46 = v48 then (
        some (.inl s47)) else
      some (.inr ((0 : Int32), s47))
def L_law_j491 (xL : Nat) (xs : Nat → Int32) (x3 : Int32)  (s : ax_S) : Option ((ax_S) ⊕ (Int32 × ax_S)) :=
  if ((x3 + (1 : Int32)) < 0 ∨ xL ≤ ((x3 + (1 : Int32))).toNatClampNeg) then none else
  if ((x3 + (2 : Int32)) < 0 ∨ xL ≤ ((x3 + (2 : Int32))).toNatClampNeg) then none else
  match X_without (xs ((x3 + (1 : Int32))).toNatClampNeg) (xs ((x3 + (2 : Int32))).toNatClampNeg) s with
  | none => none
  | some (v50, s51) =>
    if ((x3 + (1 : Int32)) < 0 ∨ xL ≤ ((x3 + (1 : Int32))).toNatClampNeg) then none else
    if ((x3 + (2 : Int32)) < 0 ∨ xL ≤ ((x3 + (2 : Int32))).toNatClampNeg) then none else
    match M_without (xs ((x3 + (1 : Int32))).toNatClampNeg) (xs ((x3 + (2 : Int32))).toNatClampNeg) s51 with
    | none => none
    | some (v52, s53) =>
      if v50 = v52 then (
        some (.inl s53)) else
      some (.inr ((0 : Int32), s53))
def L_law_j524 (xL : Nat) (xs : Nat → Int32) (x3 : Int32)  (s : ax_S) : Option ((ax_S) ⊕ (Int32 × ax_S)) :=
  if ((x3 + (1 : Int32)) < 0 ∨ xL ≤ ((x3 + (1 : Int32))).toNatClampNeg) then none else
  match X_today (xs ((x3 + (1 : Int32))).toNatClampNeg) s with
  | none => none
  | some (v55, s56) =>
    if ((x3 + (1 : Int32)) < 0 ∨ xL ≤ ((x3 + (1 : Int32))).toNatClampNeg) then none else
    match M_today (xs ((x3 + (1 : Int32))).toNatClampNeg) s56 with
    | none => none
    | some (v57, s58) =>
      if v55 = v57 then (
        some (.inl s58)) else
      some (.inr ((0 : Int32), s58))
def L_law_j547 (xL : Nat) (xs : Nat → Int32) (x3 : Int32)  (s : ax_S) : Option ((ax_S) ⊕ (Int32 × ax_S)) :=
  if ((x3 + (1 : Int32)) < 0 ∨ xL ≤ ((x3 + (1 : Int32))).toNatClampNeg) then none else
  if ((x3 + (2 : Int32)) < 0 ∨ xL ≤ ((x3 + (2 : Int32))).toNatClampNeg) then none else
  if ((x3 + (3 : Int32)) < 0 ∨ xL ≤ ((x3 + (3 : Int32))).toNatClampNeg) then none else
  if ((x3 + (4 : Int32)) < 0 ∨ xL ≤ ((x3 + (4 : Int32))).toNatClampNeg) then none else
  if ((x3 + (5 : Int32)) < 0 ∨ xL ≤ ((x3 + (5 : Int32))).toNatClampNeg) then none else
  match X_shows (xs ((x3 + (1 : Int32))).toNatClampNeg) (xs ((x3 + (2 : Int32))).toNatClampNeg) (xs ((x3 + (3 : Int32))).toNatClampNeg) (xs ((x3 + (4 : Int32))).toNatClampNeg) (xs ((x3 + (5 : Int32))).toNatClampNeg) s with
  | none => none
  | some v60 =>
    if ((x3 + (1 : Int32)) < 0 ∨ xL ≤ ((x3 + (1 : Int32))).toNatClampNeg) then none else
    if ((x3 + (2 : Int32)) < 0 ∨ xL ≤ ((x3 + (2 : Int32))).toNatClampNeg) then none else
    if ((x3 + (3 : Int32)) < 0 ∨ xL ≤ ((x3 + (3 : Int32))).toNatClampNeg) then none else
    if ((x3 + (4 : Int32)) < 0 ∨ xL ≤ ((x3 + (4 : Int32))).toNatClampNeg) then none else
    if ((x3 + (5 : Int32)) < 0 ∨ xL ≤ ((x3 + (5 : Int32))).toNatClampNeg) then none else
    match M_shows (xs ((x3 + (1 : Int32))).toNatClampNeg) (xs ((x3 + (2 : Int32))).toNatClampNeg) (xs ((x3 + (3 : Int32))).toNatClampNeg) (xs ((x3 + (4 : Int32))).toNatClampNeg) (xs ((x3 + (5 : Int32))).toNatClampNeg) s with
    | none => none
    | some v61 =>
      if v60 = v61 then (
        some (.inl s)) else
      some (.inr ((0 : Int32), s))
def L_law_j610 (xL : Nat) (xs : Nat → Int32) (x3 : Int32)  (s : ax_S) : Option ((ax_S) ⊕ (Int32 × ax_S)) :=
  if ((x3 + (1 : Int32)) < 0 ∨ xL ≤ ((x3 + (1 : Int32))).toNatClampNeg) then none else
  match X_sky (xs ((x3 + (1 : Int32))).toNatClampNeg) s with
  | none => none
  | some (v63, s64) =>
    if ((x3 + (1 : Int32)) < 0 ∨ xL ≤ ((x3 + (1 : Int32))).toNatClampNeg) then none else
    match M_sky (xs ((x3 + (1 : Int32))).toNatClampNeg) s64 with
    | none => none
    | some (v65, s66) =>
      if v63 = v65 then (
        some (.inl s66)) else
      some (.inr ((0 : Int32), s66))
def L_law_j633 (xL : Nat) (xs : Nat → Int32) (x3 : Int32)  (s : ax_S) : Option ((ax_S) ⊕ (Int32 × ax_S)) :=
  if ((x3 + (1 : Int32)) < 0 ∨ xL ≤ ((x3 + (1 : Int32))).toNatClampNeg) then none else
  if ((x3 + (2 : Int32)) < 0 ∨ xL ≤ ((x3 + (2 : Int32))).toNatClampNeg) then none else
  match X_smallest (xs ((x3 + (1 : Int32))).toNatClampNeg) (xs ((x3 + (2 : Int32))).toNatClampNeg) s with
  | none => none
  | some (v68, s69) =>
    if ((x3 + (1 : Int32)) < 0 ∨ xL ≤ ((x3 + (1 : Int32))).toNatClampNeg) then none else
    if ((x3 + (2 : Int32)) < 0 ∨ xL ≤ ((x3 + (2 : Int32))).toNatClampNeg) then none else
    match M_smallest (xs ((x3 + (1 : Int32))).toNatClampNeg) (xs ((x3 + (2 : Int32))).toNatClampNeg) s69 with
    | none => none
    | some (v70, s71) =>
      if v68 = v70 then (
        some (.inl s71)) else
      some (.inr ((0 : Int32), s71))
def L_law_j666 (xL : Nat) (xs : Nat → Int32) (x3 : Int32)  (s : ax_S) : Option ((ax_S) ⊕ (Int32 × ax_S)) :=
  if ((x3 + (1 : Int32)) < 0 ∨ xL ≤ ((x3 + (1 : Int32))).toNatClampNeg) then none else
  if ((x3 + (2 : Int32)) < 0 ∨ xL ≤ ((x3 + (2 : Int32))).toNatClampNeg) then none else
  match X_smallestOf (xs ((x3 + (1 : Int32))).toNatClampNeg) (xs ((x3 + (2 : Int32))).toNatClampNeg) s with
  | none => none
  | some (v73, s74) =>
    if ((x3 + (1 : Int32)) < 0 ∨ xL ≤ ((x3 + (1 : Int32))).toNatClampNeg) then none else
    if ((x3 + (2 : Int32)) < 0 ∨ xL ≤ ((x3 + (2 : Int32))).toNatClampNeg) then none else
    match M_smallestOf (xs ((x3 + (1 : Int32))).toNatClampNeg) (xs ((x3 + (2 : Int32))).toNatClampNeg) s74 with
    | none => none
    | some (v75, s76) =>
      if v73 = v75 then (
        some (.inl s76)) else
      some (.inr ((0 : Int32), s76))
def L_law_j699 (xL : Nat) (xs : Nat → Int32) (x3 : Int32)  (s : ax_S) : Option ((ax_S) ⊕ (Int32 × ax_S)) :=
  if ((x3 + (1 : Int32)) < 0 ∨ xL ≤ ((x3 + (1 : Int32))).toNatClampNeg) then none else
  match X_printIs (xs ((x3 + (1 : Int32))).toNatClampNeg) s with
  | none => none
  | some (v78, s79) =>
    if ((x3 + (1 : Int32)) < 0 ∨ xL ≤ ((x3 + (1 : Int32))).toNatClampNeg) then none else
    match M_printIs (xs ((x3 + (1 : Int32))).toNatClampNeg) s79 with
    | none => none
    | some v80 =>
      if v78 = v80 then (
        some (.inl s79)) else
      some (.inr ((0 : Int32), s79))
def L_law_j722 (xL : Nat) (xs : Nat → Int32) (x3 : Int32)  (s : ax_S) : Option ((ax_S) ⊕ (Int32 × ax_S)) :=
  if ((x3 + (1 : Int32)) < 0 ∨ xL ≤ ((x3 + (1 : Int32))).toNatClampNeg) then none else
  match X_family (xs ((x3 + (1 : Int32))).toNatClampNeg) s with
  | none => none
  | some (v82, s83) =>
    if ((x3 + (1 : Int32)) < 0 ∨ xL ≤ ((x3 + (1 : Int32))).toNatClampNeg) then none else
    match M_family (xs ((x3 + (1 : Int32))).toNatClampNeg) s83 with
    | none => none
    | some v84 =>
      if v82 = v84 then (
        some (.inl s83)) else
      some (.inr ((0 : Int32), s83))
def L_law_j745 (xL : Nat) (xs : Nat → Int32) (x3 : Int32)  (s : ax_S) : Option ((ax_S) ⊕ (Int32 × ax_S)) :=
  if ((x3 + (1 : Int32)) < 0 ∨ xL ≤ ((x3 + (1 : Int32))).toNatClampNeg) then none else
  if ((x3 + (2 : Int32)) < 0 ∨ xL ≤ ((x3 + (2 : Int32))).toNatClampNeg) then none else
  match X_album (xs ((x3 + (1 : Int32))).toNatClampNeg) (xs ((x3 + (2 : Int32))).toNatClampNeg) s with
  | none => none
  | some v86 =>
    if ((x3 + (1 : Int32)) < 0 ∨ xL ≤ ((x3 + (1 : Int32))).toNatClampNeg) then none else
    if ((x3 + (2 : Int32)) < 0 ∨ xL ≤ ((x3 + (2 : Int32))).toNatClampNeg) then none else
    match M_album (xs ((x3 + (1 : Int32))).toNatClampNeg) (xs ((x3 + (2 : Int32))).toNatClampNeg) s with
    | none => none
    | some v87 =>
      if v86 = v87 then (
        some (.inl s)) else
      some (.inr ((0 : Int32), s))
def L_law_j778 (xL : Nat) (xs : Nat → Int32) (x3 : Int32)  (s : ax_S) : Option ((ax_S) ⊕ (Int32 × ax_S)) :=
  if ((x3 + (1 : Int32)) < 0 ∨ xL ≤ ((x3 + (1 : Int32))).toNatClampNeg) then none else
  if ((x3 + (2 : Int32)) < 0 ∨ xL ≤ ((x3 + (2 : Int32))).toNatClampNeg) then none else
  match X_pages (xs ((x3 + (1 : Int32))).toNatClampNeg) (xs ((x3 + (2 : Int32))).toNatClampNeg) s with
  | none => none
  | some (v89, s90) =>
    if ((x3 + (1 : Int32)) < 0 ∨ xL ≤ ((x3 + (1 : Int32))).toNatClampNeg) then none else
    if ((x3 + (2 : Int32)) < 0 ∨ xL ≤ ((x3 + (2 : Int32))).toNatClampNeg) then none else
    match M_pages (xs ((x3 + (1 : Int32))).toNatClampNeg) (xs ((x3 + (2 : Int32))).toNatClampNeg) s90 with
    | none => none
    | some (v91, s92) =>
      if v89 = v91 then (
        some (.inl s92)) else
      some (.inr ((0 : Int32), s92))
def L_law_j811 (xL : Nat) (xs : Nat → Int32) (x3 : Int32)  (s : ax_S) : Option ((ax_S) ⊕ (Int32 × ax_S)) :=
  if ((x3 + (1 : Int32)) < 0 ∨ xL ≤ ((x3 + (1 : Int32))).toNatClampNeg) then none else
  if ((x3 + (2 : Int32)) < 0 ∨ xL ≤ ((x3 + (2 : Int32))).toNatClampNeg) then none else
  if ((x3 + (3 : Int32)) < 0 ∨ xL ≤ ((x3 + (3 : Int32))).toNatClampNeg) then none else
  match X_offcuts (xs ((x3 + (1 : Int32))).toNatClampNeg) (xs ((x3 + (2 : Int32))).toNatClampNeg) (xs ((x3 + (3 : Int32))).toNatClampNeg) s with
  | none => none
  | some (v94, s95) =>
    if ((x3 + (1 : Int32)) < 0 ∨ xL ≤ ((x3 + (1 : Int32))).toNatClampNeg) then none else
    if ((x3 + (2 : Int32)) < 0 ∨ xL ≤ ((x3 + (2 : Int32))).toNatClampNeg) then none else
    if ((x3 + (3 : Int32)) < 0 ∨ xL ≤ ((x3 + (3 : Int32))).toNatClampNeg) then none else
    match M_offcuts (xs ((x3 + (1 : Int32))).toNatClampNeg) (xs ((x3 + (2 : Int32))).toNatClampNeg) (xs ((x3 + (3 : Int32))).toNatClampNeg) s95 with
    | none => none
    | some (v96, s97) =>
      if v94 = v96 then (
        some (.inl s97)) else
      some (.inr ((0 : Int32), s97))
def L_law_j854 (xL : Nat) (xs : Nat → Int32) (x3 : Int32)  (s : ax_S) : Option ((ax_S) ⊕ (Int32 × ax_S)) :=
  if ((x3 + (1 : Int32)) < 0 ∨ xL ≤ ((x3 + (1 : Int32))).toNatClampNeg) then none else
  match X_fold (xs ((x3 + (1 : Int32))).toNatClampNeg) s with
  | none => none
  | some v99 =>
    if ((x3 + (1 : Int32)) < 0 ∨ xL ≤ ((x3 + (1 : Int32))).toNatClampNeg) then none else
    match M_fold (xs ((x3 + (1 : Int32))).toNatClampNeg) s with
    | none => none
    | some v100 =>
      if v99 = v100 then (
        some (.inl s)) else
      some (.inr ((0 : Int32), s))
def L_law_j877 (xL : Nat) (xs : Nat → Int32) (x3 : Int32)  (s : ax_S) : Option ((ax_S) ⊕ (Int32 × ax_S)) :=
  if ((x3 + (1 : Int32)) < 0 ∨ xL ≤ ((x3 + (1 : Int32))).toNatClampNeg) then none else
  if ((x3 + (2 : Int32)) < 0 ∨ xL ≤ ((x3 + (2 : Int32))).toNatClampNeg) then none else
  if ((x3 + (3 : Int32)) < 0 ∨ xL ≤ ((x3 + (3 : Int32))).toNatClampNeg) then none else
  if ((x3 + (4 : Int32)) < 0 ∨ xL ≤ ((x3 + (4 : Int32))).toNatClampNeg) then none else
  match X_told (xs ((x3 + (1 : Int32))).toNatClampNeg) (xs ((x3 + (2 : Int32))).toNatClampNeg) (xs ((x3 + (3 : Int32))).toNatClampNeg) (xs ((x3 + (4 : Int32))).toNatClampNeg) s with
  | none => none
  | some (v102, s103) =>
    if ((x3 + (1 : Int32)) < 0 ∨ xL ≤ ((x3 + (1 : Int32))).toNatClampNeg) then none else
    if ((x3 + (2 : Int32)) < 0 ∨ xL ≤ ((x3 + (2 : Int32))).toNatClampNeg) then none else
    if ((x3 + (3 : Int32)) < 0 ∨ xL ≤ ((x3 + (3 : Int32))).toNatClampNeg) then none else
    if ((x3 + (4 : Int32)) < 0 ∨ xL ≤ ((x3 + (4 : Int32))).toNatClampNeg) then none else
    match M_told (xs ((x3 + (1 : Int32))).toNatClampNeg) (xs ((x3 + (2 : Int32))).toNatClampNeg) (xs ((x3 + (3 : Int32))).toNatClampNeg) (xs ((x3 + (4 : Int32))).toNatClampNeg) s103 with
    | none => none
    | some (v104, s105) =>
      if v102 = v104 then (
        some (.inl s105)) else
      some (.inr ((0 : Int32), s105))
def L_law_j941 (xL : Nat) (xs : Nat → Int32) (x3 : Int32) (y1 : Int32) (y2 : Int32)  (s : ax_S) : Int32 :=
  if y2 = 0 then (
    (0 : Int32)) else
  (1 : Int32)
def L_law_j963 (xL : Nat) (xs : Nat → Int32) (x3 : Int32) (y0 : Int32) (y2 : Int32) (y3 : Int32)  (s : ax_S) : Int32 :=
  if y3 = 0 then (
    (0 : Int32)) else
  (1 : Int32)
def L_law_j930 (xL : Nat) (xs : Nat → Int32) (x3 : Int32)  (s : ax_S) : Option ((ax_S) ⊕ (Int32 × ax_S)) :=
  if ((x3 + (1 : Int32)) < 0 ∨ xL ≤ ((x3 + (1 : Int32))).toNatClampNeg) then none else
  if ((x3 + (2 : Int32)) < 0 ∨ xL ≤ ((x3 + (2 : Int32))).toNatClampNeg) then none else
  match X_frames (xs ((x3 + (1 : Int32))).toNatClampNeg) (L_law_j941 xL xs x3 (xs ((x3 + (1 : Int32))).toNatClampNeg) (xs ((x3 + (2 : Int32))).toNatClampNeg) s) s with
  | none => none
  | some (v108, s109) =>
    if ((x3 + (1 : Int32)) < 0 ∨ xL ≤ ((x3 + (1 : Int32))).toNatClampNeg) then none else
    if ((x3 + (2 : Int32)) < 0 ∨ xL ≤ ((x3 + (2 : Int32))).toNatClampNeg) then none else
    match M_frames (xs ((x3 + (1 : Int32))).toNatClampNeg) (L_law_j963 xL xs x3 v108 (xs ((x3 + (1 : Int32))).toNatClampNeg) (xs ((x3 + (2 : Int32))).toNatClampNeg) s109) s109 with
    | none => none
    | some (v111, s112) =>
      if v108 = v111 then (
        some (.inl s112)) else
      some (.inr ((0 : Int32), s112))
def L_law_j979 (xL : Nat) (xs : Nat → Int32) (x3 : Int32)  (s : ax_S) : Option ((ax_S) ⊕ (Int32 × ax_S)) :=
  if ((x3 + (1 : Int32)) < 0 ∨ xL ≤ ((x3 + (1 : Int32))).toNatClampNeg) then none else
  if ((x3 + (1 : Int32)) < 0 ∨ xL ≤ ((x3 + (1 : Int32))).toNatClampNeg) then none else
  if (X_seed (xs ((x3 + (1 : Int32))).toNatClampNeg) s).1 = (M_seed (xs ((x3 + (1 : Int32))).toNatClampNeg) (X_seed (xs ((x3 + (1 : Int32))).toNatClampNeg) s).2).1 then (
    some (.inl (M_seed (xs ((x3 + (1 : Int32))).toNatClampNeg) (X_seed (xs ((x3 + (1 : Int32))).toNatClampNeg) s).2).2)) else
  some (.inr ((0 : Int32), (M_seed (xs ((x3 + (1 : Int32))).toNatClampNeg) (X_seed (xs ((x3 + (1 : Int32))).toNatClampNeg) s).2).2))
def L_law_j1002 (xL : Nat) (xs : Nat → Int32) (x3 : Int32)  (s : ax_S) : Option ((ax_S) ⊕ (Int32 × ax_S)) :=
  match M_keep (X_keep s).2 with
  | none => none
  | some (v115, s116) =>
    if (X_keep s).1 = v115 then (
      some (.inl s116)) else
    some (.inr ((0 : Int32), s116))
def L_law_j1015 (xL : Nat) (xs : Nat → Int32) (x3 : Int32)  (s : ax_S) : Option ((ax_S) ⊕ (Int32 × ax_S)) :=
  match X_undo s with
  | none => none
  | some (v118, s119) =>
    match M_undo s119 with
    | none => none
    | some (v120, s121) =>
      if v118 = v120 then (
        some (.inl s121)) else
      some (.inr ((0 : Int32), s121))
def L_law_j1028 (xL : Nat) (xs : Nat → Int32) (x3 : Int32)  (s : ax_S) : Option ((ax_S) ⊕ (Int32 × ax_S)) :=
  if ((x3 + (1 : Int32)) < 0 ∨ xL ≤ ((x3 + (1 : Int32))).toNatClampNeg) then none else
  match X_check (xs ((x3 + (1 : Int32))).toNatClampNeg) s with
  | none => none
  | some (v123, s124) =>
    if ((x3 + (1 : Int32)) < 0 ∨ xL ≤ ((x3 + (1 : Int32))).toNatClampNeg) then none else
    match M_check (xs ((x3 + (1 : Int32))).toNatClampNeg) s124 with
    | none => none
    | some (v125, s126) =>
      if v123 = v125 then (
        some (.inl s126)) else
      some (.inr ((0 : Int32), s126))
def L_law_j1051 (xL : Nat) (xs : Nat → Int32) (x3 : Int32)  (s : ax_S) : Option ((ax_S) ⊕ (Int32 × ax_S)) :=
  if ((x3 + (1 : Int32)) < 0 ∨ xL ≤ ((x3 + (1 : Int32))).toNatClampNeg) then none else
  match X_count (xs ((x3 + (1 : Int32))).toNatClampNeg) s with
  | none => none
  | some v128 =>
    if ((x3 + (1 : Int32)) < 0 ∨ xL ≤ ((x3 + (1 : Int32))).toNatClampNeg) then none else
    match M_count (xs ((x3 + (1 : Int32))).toNatClampNeg) s with
    | none => none
    | some v129 =>
      if v128 = v129 then (
        some (.inl s)) else
      some (.inr ((0 : Int32), s))
def L_law_j27 (xL : Nat) (xs : Nat → Int32) (x3 : Int32)  (s : ax_S) : Option ((ax_S) ⊕ (Int32 × ax_S)) :=
  if (x3 < 0 ∨ xL ≤ (x3).toNatClampNeg) then none else
  if ((xs (x3).toNatClampNeg) &&& (31 : Int32)) = (0) then (
    match L_law_j168 xL xs x3 s with
    | none => none
    | some (.inl s5) =>
      some (.inl s5)
    | some (.inr r) => some (.inr r)) else
  if ((xs (x3).toNatClampNeg) &&& (31 : Int32)) = (1) then (
    match L_law_j201 xL xs x3 s with
    | none => none
    | some (.inl s6) =>
      some (.inl s6)
    | some (.inr r) => some (.inr r)) else
  if ((xs (x3).toNatClampNeg) &&& (31 : Int32)) = (2) then (
    match L_law_j224 xL xs x3 s with
    | none => none
    | some (.inl s11) =>
      some (.inl s11)
    | some (.inr r) => some (.inr r)) else
  if ((xs (x3).toNatClampNeg) &&& (31 : Int32)) = (3) then (
    match L_law_j287 xL xs x3 s with
    | none => none
    | some (.inl s16) =>
      some (.inl s16)
    | some (.inr r) => some (.inr r)) else
  if ((xs (x3).toNatClampNeg) &&& (31 : Int32)) = (4) then (
    match L_law_j310 xL xs x3 s with
    | none => none
    | some (.inl s21) =>
      some (.inl s21)
    | some (.inr r) => some (.inr r)) else
  if ((xs (x3).toNatClampNeg) &&& (31 : Int32)) = (5) then (
    match L_law_j333 xL xs x3 s with
    | none => none
    | some (.inl s26) =>
      some (.inl s26)
    | some (.inr r) => some (.inr r)) else
  if ((xs (x3).toNatClampNeg) &&& (31 : Int32)) = (6) then (
    match L_law_j356 xL xs x3 s with
    | none => none
    | some (.inl s31) =>
      some (.inl s31)
    | some (.inr r) => some (.inr r)) else
  if ((xs (x3).toNatClampNeg) &&& (31 : Int32)) = (7) then (
    match L_law_j369 xL xs x3 s with
    | none => none
    | some (.inl s36) =>
      some (.inl s36)
    | some (.inr r) => some (.inr r)) else
  if ((xs (x3).toNatClampNeg) &&& (31 : Int32)) = (8) then (
    match L_law_j392 xL xs x3 s with
    | none => none
    | some (.inl s41) =>
      some (.inl s41)
    | some (.inr r) => some (.inr r)) else
  if ((xs (x3).toNatClampNeg) &&& (31 : Int32)) = (9) then (
    match L_law_j425 xL xs x3 s with
    | none => none
    | some (.inl s45) =>
      some (.inl s45)
    | some (.inr r) => some (.inr r)) else
  if ((xs (x3).toNatClampNeg) &&& (31 : Int32)) = (10) then (
    match L_law_j458 xL xs x3 s with
    | none => none
    | some (.inl s49) =>
      some (.inl s49)
    | some (.inr r) => some (.inr r)) else
  if ((xs (x3).toNatClampNeg) &&& (31 : Int32)) = (11) then (
    match L_law_j491 xL xs x3 s with
    | none => none
    | some (.inl s54) =>
      some (.inl s54)
    | some (.inr r) => some (.inr r)) else
  if ((xs (x3).toNatClampNeg) &&& (31 : Int32)) = (12) then (
    match L_law_j524 xL xs x3 s with
    | none => none
    | some (.inl s59) =>
      some (.inl s59)
    | some (.inr r) => some (.inr r)) else
  if ((xs (x3).toNatClampNeg) &&& (31 : Int32)) = (13) then (
    match L_law_j547 xL xs x3 s with
    | none => none
    | some (.inl s62) =>
      some (.inl s62)
    | some (.inr r) => some (.inr r)) else
  if ((xs (x3).toNatClampNeg) &&& (31 : Int32)) = (14) then (
    match L_law_j610 xL xs x3 s with
    | none => none
    | some (.inl s67) =>
      some (.inl s67)
    | some (.inr r) => some (.inr r)) else
  if ((xs (x3).toNatClampNeg) &&& (31 : Int32)) = (15) then (
    match L_law_j633 xL xs x3 s with
    | none => none
    | some (.inl s72) =>
      some (.inl s72)
    | some (.inr r) => some (.inr r)) else
  if ((xs (x3).toNatClampNeg) &&& (31 : Int32)) = (16) then (
    match L_law_j666 xL xs x3 s with
    | none => none
    | some (.inl s77) =>
      some (.inl s77)
    | some (.inr r) => some (.inr r)) else
  if ((xs (x3).toNatClampNeg) &&& (31 : Int32)) = (17) then (
    match L_law_j699 xL xs x3 s with
    | none => none
    | some (.inl s81) =>
      some (.inl s81)
    | some (.inr r) => some (.inr r)) else
  if ((xs (x3).toNatClampNeg) &&& (31 : Int32)) = (18) then (
    match L_law_j722 xL xs x3 s with
    | none => none
    | some (.inl s85) =>
      some (.inl s85)
    | some (.inr r) => some (.inr r)) else
  if ((xs (x3).toNatClampNeg) &&& (31 : Int32)) = (19) then (
    match L_law_j745 xL xs x3 s with
    | none => none
    | some (.inl s88) =>
      some (.inl s88)
    | some (.inr r) => some (.inr r)) else
  if ((xs (x3).toNatClampNeg) &&& (31 : Int32)) = (20) then (
    match L_law_j778 xL xs x3 s with
    | none => none
    | some (.inl s93) =>
      some (.inl s93)
    | some (.inr r) => some (.inr r)) else
  if ((xs (x3).toNatClampNeg) &&& (31 : Int32)) = (21) then (
    match L_law_j811 xL xs x3 s with
    | none => none
    | some (.inl s98) =>
      some (.inl s98)
    | some (.inr r) => some (.inr r)) else
  if ((xs (x3).toNatClampNeg) &&& (31 : Int32)) = (22) then (
    match L_law_j854 xL xs x3 s with
    | none => none
    | some (.inl s101) =>
      some (.inl s101)
    | some (.inr r) => some (.inr r)) else
  if ((xs (x3).toNatClampNeg) &&& (31 : Int32)) = (23) then (
    match L_law_j877 xL xs x3 s with
    | none => none
    | some (.inl s106) =>
      some (.inl s106)
    | some (.inr r) => some (.inr r)) else
  if ((xs (x3).toNatClampNeg) &&& (31 : Int32)) = (24) then (
    match L_law_j930 xL xs x3 s with
    | none => none
    | some (.inl s113) =>
      some (.inl s113)
    | some (.inr r) => some (.inr r)) else
  if ((xs (x3).toNatClampNeg) &&& (31 : Int32)) = (25) then (
    match L_law_j979 xL xs x3 s with
    | none => none
    | some (.inl s114) =>
      some (.inl s114)
    | some (.inr r) => some (.inr r)) else
  if ((xs (x3).toNatClampNeg) &&& (31 : Int32)) = (26) then (
    match L_law_j1002 xL xs x3 s with
    | none => none
    | some (.inl s117) =>
      some (.inl s117)
    | some (.inr r) => some (.inr r)) else
  if ((xs (x3).toNatClampNeg) &&& (31 : Int32)) = (27) then (
    match L_law_j1015 xL xs x3 s with
    | none => none
    | some (.inl s122) =>
      some (.inl s122)
    | some (.inr r) => some (.inr r)) else
  if ((xs (x3).toNatClampNeg) &&& (31 : Int32)) = (28) then (
    match L_law_j1028 xL xs x3 s with
    | none => none
    | some (.inl s127) =>
      some (.inl s127)
    | some (.inr r) => some (.inr r)) else
  if ((xs (x3).toNatClampNeg) &&& (31 : Int32)) = (29) then (
    match L_law_j1051 xL xs x3 s with
    | none => none
    | some (.inl s130) =>
      some (.inl s130)
    | some (.inr r) => some (.inr r)) else
  some (.inl s)
def L_law_l18 (xL : Nat) (xs : Nat → Int32) : Nat → Int32 → ax_S → Option (Int32 × ax_S)
  | 0, _, _ => none
  | n + 1, x3, s =>
    if ((Int32.ofNat xL) - (6 : Int32)) < x3 then (
      some ((1 : Int32), s)) else
    match L_law_j27 xL xs x3 s with
    | none => none
    | some (.inl s131) =>
      L_law_l18 xL xs n (x3 + (6)) s131
    | some (.inr r) => some r
theorem w_L_law_j168 (d : Nat) (xL : Nat) (xs : Nat → Int32) {o : ax_O} (x3 : Int32) (s : ax_S) (r : (ax_S) ⊕ (Int32 × ax_S)) (h : L_law_j168 xL xs x3 s = some r) (hk0 : ∀ (t0 : ax_S), r = (.inl t0) → ax_go true (some (xL, xs)) (ax_ev true (d + 53)) ax_m286 1074 [some (.ref 1000), some (.ref 0), some (.ref 63), some (.int x3)] [] t0 o) (hkr : ∀ q, r = (.inr q) → o = (some (.int q.1), q.2)) : ax_go true (some (xL, xs)) (ax_ev true (d + 53)) ax_m286 168 [some (.ref 1000), some (.ref 0), some (.ref 63), some (.int x3)] [] s o := by
  unfold L_law_j168 at h
  by_cases c1 : ((x3 + (1 : Int32)) < 0 ∨ xL ≤ ((x3 + (1 : Int32))).toNatClampNeg)
  · rw [if_pos c1] at h; cases h
  · rw [if_neg c1] at h
    by_cases c2 : ((x3 + (2 : Int32)) < 0 ∨ xL ≤ ((x3 + (2 : Int32))).toNatClampNeg)
    · rw [if_pos c2] at h; cases h
    · rw [if_neg c2] at h
      cases hz3 : X_pain (xs ((x3 + (1 : Int32))).toNatClampNeg) (xs ((x3 + (2 : Int32))).toNatClampNeg) s with
      | none => rw [hz3] at h; cases h
      | some z3 =>
      rw [hz3] at h
      obtain ⟨v1, s2⟩ := z3
      dsimp only at h
      refine ax_cut (pc' := 186) (la := [some (.ref 1000), some (.ref 0), some (.ref 63), some (.int x3)]) [some (.ref 1000), some (.ref 0), some (.ref 63), some (.int x3)] (st' := [.int (1 : Int32), .int x3, .ref 1000, .ref 63, .int v1]) (σ' := s2) 16 (And.intro rfl (And.intro rfl (And.intro rfl (And.intro rfl (trivial))))) (fun _ hh => (And.intro c1 (And.intro c2 (Exists.intro (some (.int v1), s2) (And.intro (e_X_pain (d + 49) hz3) hh))))) ?_
      by_cases c4 : ((x3 + (1 : Int32)) < 0 ∨ xL ≤ ((x3 + (1 : Int32))).toNatClampNeg)
      · rw [if_pos c4] at h; cases h
      · rw [if_neg c4] at h
        by_cases c5 : ((x3 + (2 : Int32)) < 0 ∨ xL ≤ ((x3 + (2 : Int32))).toNatClampNeg)
        · rw [if_pos c5] at h; cases h
        · rw [if_neg c5] at h
          cases hz6 : M_pain (xs ((x3 + (1 : Int32))).toNatClampNeg) (xs ((x3 + (2 : Int32))).toNatClampNeg) s2 with
          | none => rw [hz6] at h; cases h
          | some z6 =>
          rw [hz6] at h
          obtain ⟨v3, s4⟩ := z6
          dsimp only at h
          by_cases c7 : v1 = v3
          · rw [if_pos c7] at h
            have h := Option.some.inj h
            subst r
            exact ax_cut (pc' := 1074) (la := [some (.ref 1000), some (.ref 0), some (.ref 63), some (.int x3)]) [some (.ref 1000), some (.ref 0), some (.ref 63), some (.int x3)] (st' := []) (σ' := s4) 9 (And.intro rfl (And.intro rfl (And.intro rfl (And.intro rfl (trivial))))) (fun _ hh => (And.intro c4 (And.intro c5 (Exists.intro (some (.int v3), s4) (And.intro (e_M_pain (d + 50) hz6) (And.intro (fun _ => hh) (fun q => absurd c7 q))))))) (hk0 _ rfl)
          · rw [if_neg c7] at h
            have h := Option.some.inj h
            subst r
            exact ax_end 11 (And.intro c4 (And.intro c5 (Exists.intro (some (.int v3), s4) (And.intro (e_M_pain (d + 50) hz6) (And.intro (fun q => absurd q c7) (fun _ => (And.intro (Or.inl rfl) (hkr _ rfl))))))))
theorem w_L_law_j201 (d : Nat) (xL : Nat) (xs : Nat → Int32) {o : ax_O} (x3 : Int32) (s : ax_S) (r : (ax_S) ⊕ (Int32 × ax_S)) (h : L_law_j201 xL xs x3 s = some r) (hk0 : ∀ (t0 : ax_S), r = (.inl t0) → ax_go true (some (xL, xs)) (ax_ev true (d + 53)) ax_m286 1074 [some (.ref 1000), some (.ref 0), some (.ref 63), some (.int x3)] [] t0 o) (hkr : ∀ q, r = (.inr q) → o = (some (.int q.1), q.2)) : ax_go true (some (xL, xs)) (ax_ev true (d + 53)) ax_m286 201 [some (.ref 1000), some (.ref 0), some (.ref 63), some (.int x3)] [] s o := by
  unfold L_law_j201 at h
  by_cases c1 : ((x3 + (1 : Int32)) < 0 ∨ xL ≤ ((x3 + (1 : Int32))).toNatClampNeg)
  · rw [if_pos c1] at h; cases h
  · rw [if_neg c1] at h
    by_cases c2 : ((x3 + (1 : Int32)) < 0 ∨ xL ≤ ((x3 + (1 : Int32))).toNatClampNeg)
    · rw [if_pos c2] at h; cases h
    · rw [if_neg c2] at h
      by_cases c3 : (X_bound (xs ((x3 + (1 : Int32))).toNatClampNeg) s).1 = (M_bound (xs ((x3 + (1 : Int32))).toNatClampNeg) (X_bound (xs ((x3 + (1 : Int32))).toNatClampNeg) s).2).1
      · rw [if_pos c3] at h
        have h := Option.some.inj h
        subst r
        exact ax_cut (pc' := 1074) (la := [some (.ref 1000), some (.ref 0), some (.ref 63), some (.int x3)]) [some (.ref 1000), some (.ref 0), some (.ref 63), some (.int x3)] (st' := []) (σ' := (M_bound (xs ((x3 + (1 : Int32))).toNatClampNeg) (X_bound (xs ((x3 + (1 : Int32))).toNatClampNeg) s).2).2) 15 (And.intro rfl (And.intro rfl (And.intro rfl (And.intro rfl (trivial))))) (fun _ hh => (And.intro c1 (Exists.intro (some (.int (X_bound (xs ((x3 + (1 : Int32))).toNatClampNeg) s).1), (X_bound (xs ((x3 + (1 : Int32))).toNatClampNeg) s).2) (And.intro (e_X_bound (d + 51) (xs ((x3 + (1 : Int32))).toNatClampNeg) s) (And.intro c2 (Exists.intro (some (.int (M_bound (xs ((x3 + (1 : Int32))).toNatClampNeg) (X_bound (xs ((x3 + (1 : Int32))).toNatClampNeg) s).2).1), (M_bound (xs ((x3 + (1 : Int32))).toNatClampNeg) (X_bound (xs ((x3 + (1 : Int32))).toNatClampNeg) s).2).2) (And.intro (e_M_bound (d + 51) (xs ((x3 + (1 : Int32))).toNatClampNeg) (X_bound (xs ((x3 + (1 : Int32))).toNatClampNeg) s).2) (And.intro (fun _ => hh) (fun q => absurd c3 q))))))))) (hk0 _ rfl)
      · rw [if_neg c3] at h
        refine ax_cut (pc' := 223) (la := [some (.ref 1000), some (.ref 0), some (.ref 63), some (.int x3)]) [none, none, none, none] (st' := [.int (0 : Int32)]) (σ' := (M_bound (xs ((x3 + (1 : Int32))).toNatClampNeg) (X_bound (xs ((x3 + (1 : Int32))).toNatClampNeg) s).2).2) 16 (trivial) (fun _ hh => (And.intro c1 (Exists.intro (some (.int (X_bound (xs ((x3 + (1 : Int32))).toNatClampNeg) s).1), (X_bound (xs ((x3 + (1 : Int32))).toNatClampNeg) s).2) (And.intro (e_X_bound (d + 51) (xs ((x3 + (1 : Int32))).toNatClampNeg) s) (And.intro c2 (Exists.intro (some (.int (M_bound (xs ((x3 + (1 : Int32))).toNatClampNeg) (X_bound (xs ((x3 + (1 : Int32))).toNatClampNeg) s).2).1), (M_bound (xs ((x3 + (1 : Int32))).toNatClampNeg) (X_bound (xs ((x3 + (1 : Int32))).toNatClampNeg) s).2).2) (And.intro (e_M_bound (d + 51) (xs ((x3 + (1 : Int32))).toNatClampNeg) (X_bound (xs ((x3 + (1 : Int32))).toNatClampNeg) s).2) (And.intro (fun q => absurd q c3) (fun _ => hh))))))))) ?_
        have h := Option.some.inj h
        subst r
        exact ax_end 1 (And.intro (Or.inl rfl) (hkr _ rfl))
theorem w_L_law_j224 (d : Nat) (xL : Nat) (xs : Nat → Int32) {o : ax_O} (x3 : Int32) (s : ax_S) (r : (ax_S) ⊕ (Int32 × ax_S)) (h : L_law_j224 xL xs x3 s = some r) (hk0 : ∀ (t0 : ax_S), r = (.inl t0) → ax_go true (some (xL, xs)) (ax_ev true (d + 53)) ax_m286 1074 [some (.ref 1000), some (.ref 0), some (.ref 63), some (.int x3)] [] t0 o) (hkr : ∀ q, r = (.inr q) → o = (some (.int q.1), q.2)) : ax_go true (some (xL, xs)) (ax_ev true (d + 53)) ax_m286 224 [some (.ref 1000), some (.ref 0), some (.ref 63), some (.int x3)] [] s o := by
  unfold L_law_j224 at h
  by_cases c1 : ((x3 + (1 : Int32)) < 0 ∨ xL ≤ ((x3 + (1 : Int32))).toNatClampNeg)
  · rw [if_pos c1] at h; cases h
  · rw [if_neg c1] at h
    by_cases c2 : ((x3 + (2 : Int32)) < 0 ∨ xL ≤ ((x3 + (2 : Int32))).toNatClampNeg)
    · rw [if_pos c2] at h; cases h
    · rw [if_neg c2] at h
      by_cases c3 : ((x3 + (3 : Int32)) < 0 ∨ xL ≤ ((x3 + (3 : Int32))).toNatClampNeg)
      · rw [if_pos c3] at h; cases h
      · rw [if_neg c3] at h
        refine ax_cut (pc' := 240) (la := [some (.ref 1000), some (.ref 0), some (.ref 63), some (.int x3)]) [some (.ref 1000), some (.ref 0), some (.ref 63), some (.int x3)] (st' := [.int (xs ((x3 + (3 : Int32))).toNatClampNeg), .int (xs ((x3 + (2 : Int32))).toNatClampNeg), .int (xs ((x3 + (1 : Int32))).toNatClampNeg), .ref 0]) (σ' := s) 16 (And.intro rfl (And.intro rfl (And.intro rfl (And.intro rfl (trivial))))) (fun _ hh => (And.intro c1 (And.intro c2 (And.intro c3 hh)))) ?_
        by_cases c4 : ((x3 + (4 : Int32)) < 0 ∨ xL ≤ ((x3 + (4 : Int32))).toNatClampNeg)
        · rw [if_pos c4] at h; cases h
        · rw [if_neg c4] at h
          by_cases c5 : ((x3 + (5 : Int32)) < 0 ∨ xL ≤ ((x3 + (5 : Int32))).toNatClampNeg)
          · rw [if_pos c5] at h; cases h
          · rw [if_neg c5] at h
            cases hz6 : X_feed (xs ((x3 + (1 : Int32))).toNatClampNeg) (xs ((x3 + (2 : Int32))).toNatClampNeg) (xs ((x3 + (3 : Int32))).toNatClampNeg) (xs ((x3 + (4 : Int32))).toNatClampNeg) (xs ((x3 + (5 : Int32))).toNatClampNeg) s with
            | none => rw [hz6] at h; cases h
            | some z6 =>
            rw [hz6] at h
            obtain ⟨v7, s8⟩ := z6
            dsimp only at h
            refine ax_cut (pc' := 258) (la := [some (.ref 1000), some (.ref 0), some (.ref 63), some (.int x3)]) [some (.ref 1000), some (.ref 0), some (.ref 63), some (.int x3)] (st' := [.int (x3 + (1 : Int32)), .ref 1000, .ref 63, .int v7]) (σ' := s8) 16 (And.intro rfl (And.intro rfl (And.intro rfl (And.intro rfl (trivial))))) (fun _ hh => (And.intro c4 (And.intro c5 (Exists.intro (some (.int v7), s8) (And.intro (e_X_feed (d + 51) hz6) hh))))) ?_
            by_cases c7 : ((x3 + (1 : Int32)) < 0 ∨ xL ≤ ((x3 + (1 : Int32))).toNatClampNeg)
            · rw [if_pos c7] at h; cases h
            · rw [if_neg c7] at h
              by_cases c8 : ((x3 + (2 : Int32)) < 0 ∨ xL ≤ ((x3 + (2 : Int32))).toNatClampNeg)
              · rw [if_pos c8] at h; cases h
              · rw [if_neg c8] at h
                by_cases c9 : ((x3 + (3 : Int32)) < 0 ∨ xL ≤ ((x3 + (3 : Int32))).toNatClampNeg)
                · rw [if_pos c9] at h; cases h
                · rw [if_neg c9] at h
                  by_cases c10 : ((x3 + (4 : Int32)) < 0 ∨ xL ≤ ((x3 + (4 : Int32))).toNatClampNeg)
                  · rw [if_pos c10] at h; cases h
                  · rw [if_neg c10] at h
                    refine ax_cut (pc' := 274) (la := [some (.ref 1000), some (.ref 0), some (.ref 63), some (.int x3)]) [some (.ref 1000), some (.ref 0), some (.ref 63), some (.int x3)] (st' := [.int (xs ((x3 + (4 : Int32))).toNatClampNeg), .int (xs ((x3 + (3 : Int32))).toNatClampNeg), .int (xs ((x3 + (2 : Int32))).toNatClampNeg), .int (xs ((x3 + (1 : Int32))).toNatClampNeg), .ref 63, .int v7]) (σ' := s8) 16 (And.intro rfl (And.intro rfl (And.intro rfl (And.intro rfl (trivial))))) (fun _ hh => (And.intro c7 (And.intro c8 (And.intro c9 (And.intro c10 hh))))) ?_
                    by_cases c11 : ((x3 + (5 : Int32)) < 0 ∨ xL ≤ ((x3 + (5 : Int32))).toNatClampNeg)
                    · rw [if_pos c11] at h; cases h
                    · rw [if_neg c11] at h
                      cases hz12 : M_feed (xs ((x3 + (1 : Int32))).toNatClampNeg) (xs ((x3 + (2 : Int32))).toNatClampNeg) (xs ((x3 + (3 : Int32))).toNatClampNeg) (xs ((x3 + (4 : Int32))).toNatClampNeg) (xs ((x3 + (5 : Int32))).toNatClampNeg) s8 with
                      | none => rw [hz12] at h; cases h
                      | some z12 =>
                      rw [hz12] at h
                      obtain ⟨v9, s10⟩ := z12
                      dsimp only at h
                      by_cases c13 : v7 = v9
                      · rw [if_pos c13] at h
                        have h := Option.some.inj h
                        subst r
                        exact ax_cut (pc' := 1074) (la := [some (.ref 1000), some (.ref 0), some (.ref 63), some (.int x3)]) [some (.ref 1000), some (.ref 0), some (.ref 63), some (.int x3)] (st' := []) (σ' := s10) 7 (And.intro rfl (And.intro rfl (And.intro rfl (And.intro rfl (trivial))))) (fun _ hh => (And.intro c11 (Exists.intro (some (.int v9), s10) (And.intro (e_M_feed (d + 51) hz12) (And.intro (fun _ => hh) (fun q => absurd c13 q)))))) (hk0 _ rfl)
                      · rw [if_neg c13] at h
                        have h := Option.some.inj h
                        subst r
                        exact ax_end 9 (And.intro c11 (Exists.intro (some (.int v9), s10) (And.intro (e_M_feed (d + 51) hz12) (And.intro (fun q => absurd q c13) (fun _ => (And.intro (Or.inl rfl) (hkr _ rfl)))))))
theorem w_L_law_j287 (d : Nat) (xL : Nat) (xs : Nat → Int32) {o : ax_O} (x3 : Int32) (s : ax_S) (r : (ax_S) ⊕ (Int32 × ax_S)) (h : L_law_j287 xL xs x3 s = some r) (hk0 : ∀ (t0 : ax_S), r = (.inl t0) → ax_go true (some (xL, xs)) (ax_ev true (d + 53)) ax_m286 1074 [some (.ref 1000), some (.ref 0), some (.ref 63), some (.int x3)] [] t0 o) (hkr : ∀ q, r = (.inr q) → o = (some (.int q.1), q.2)) : ax_go true (some (xL, xs)) (ax_ev true (d + 53)) ax_m286 287 [some (.ref 1000), some (.ref 0), some (.ref 63), some (.int x3)] [] s o := by
  unfold L_law_j287 at h
  by_cases c1 : ((x3 + (1 : Int32)) < 0 ∨ xL ≤ ((x3 + (1 : Int32))).toNatClampNeg)
  · rw [if_pos c1] at h; cases h
  · rw [if_neg c1] at h
    cases hz2 : X_law (xs ((x3 + (1 : Int32))).toNatClampNeg) s with
    | none => rw [hz2] at h; cases h
    | some z2 =>
    rw [hz2] at h
    obtain ⟨v12, s13⟩ := z2
    dsimp only at h
    by_cases c3 : ((x3 + (1 : Int32)) < 0 ∨ xL ≤ ((x3 + (1 : Int32))).toNatClampNeg)
    · rw [if_pos c3] at h; cases h
    · rw [if_neg c3] at h
      cases hz4 : M_law (xs ((x3 + (1 : Int32))).toNatClampNeg) s13 with
      | none => rw [hz4] at h; cases h
      | some z4 =>
      rw [hz4] at h
      obtain ⟨v14, s15⟩ := z4
      dsimp only at h
      by_cases c5 : v12 = v14
      · rw [if_pos c5] at h
        have h := Option.some.inj h
        subst r
        exact ax_cut (pc' := 1074) (la := [some (.ref 1000), some (.ref 0), some (.ref 63), some (.int x3)]) [some (.ref 1000), some (.ref 0), some (.ref 63), some (.int x3)] (st' := []) (σ' := s15) 15 (And.intro rfl (And.intro rfl (And.intro rfl (And.intro rfl (trivial))))) (fun _ hh => (And.intro c1 (Exists.intro (some (.int v12), s13) (And.intro (e_X_law d hz2) (And.intro c3 (Exists.intro (some (.int v14), s15) (And.intro (e_M_law (d + 44) hz4) (And.intro (fun _ => hh) (fun q => absurd c5 q))))))))) (hk0 _ rfl)
      · rw [if_neg c5] at h
        refine ax_cut (pc' := 309) (la := [some (.ref 1000), some (.ref 0), some (.ref 63), some (.int x3)]) [none, none, none, none] (st' := [.int (0 : Int32)]) (σ' := s15) 16 (trivial) (fun _ hh => (And.intro c1 (Exists.intro (some (.int v12), s13) (And.intro (e_X_law d hz2) (And.intro c3 (Exists.intro (some (.int v14), s15) (And.intro (e_M_law (d + 44) hz4) (And.intro (fun q => absurd q c5) (fun _ => hh))))))))) ?_
        have h := Option.some.inj h
        subst r
        exact ax_end 1 (And.intro (Or.inl rfl) (hkr _ rfl))
theorem w_L_law_j310 (d : Nat) (xL : Nat) (xs : Nat → Int32) {o : ax_O} (x3 : Int32) (s : ax_S) (r : (ax_S) ⊕ (Int32 × ax_S)) (h : L_law_j310 xL xs x3 s = some r) (hk0 : ∀ (t0 : ax_S), r = (.inl t0) → ax_go true (some (xL, xs)) (ax_ev true (d + 53)) ax_m286 1074 [some (.ref 1000), some (.ref 0), some (.ref 63), some (.int x3)] [] t0 o) (hkr : ∀ q, r = (.inr q) → o = (some (.int q.1), q.2)) : ax_go true (some (xL, xs)) (ax_ev true (d + 53)) ax_m286 310 [some (.ref 1000), some (.ref 0), some (.ref 63), some (.int x3)] [] s o := by
  unfold L_law_j310 at h
  by_cases c1 : ((x3 + (1 : Int32)) < 0 ∨ xL ≤ ((x3 + (1 : Int32))).toNatClampNeg)
  · rw [if_pos c1] at h; cases h
  · rw [if_neg c1] at h
    cases hz2 : X_print (xs ((x3 + (1 : Int32))).toNatClampNeg) s with
    | none => rw [hz2] at h; cases h
    | some z2 =>
    rw [hz2] at h
    obtain ⟨v17, s18⟩ := z2
    dsimp only at h
    by_cases c3 : ((x3 + (1 : Int32)) < 0 ∨ xL ≤ ((x3 + (1 : Int32))).toNatClampNeg)
    · rw [if_pos c3] at h; cases h
    · rw [if_neg c3] at h
      cases hz4 : M_print (xs ((x3 + (1 : Int32))).toNatClampNeg) s18 with
      | none => rw [hz4] at h; cases h
      | some z4 =>
      rw [hz4] at h
      obtain ⟨v19, s20⟩ := z4
      dsimp only at h
      by_cases c5 : v17 = v19
      · rw [if_pos c5] at h
        have h := Option.some.inj h
        subst r
        exact ax_cut (pc' := 1074) (la := [some (.ref 1000), some (.ref 0), some (.ref 63), some (.int x3)]) [some (.ref 1000), some (.ref 0), some (.ref 63), some (.int x3)] (st' := []) (σ' := s20) 15 (And.intro rfl (And.intro rfl (And.intro rfl (And.intro rfl (trivial))))) (fun _ hh => (And.intro c1 (Exists.intro (some (.int v17), s18) (And.intro (e_X_print (d + 47) hz2) (And.intro c3 (Exists.intro (some (.int v19), s20) (And.intro (e_M_print (d + 47) hz4) (And.intro (fun _ => hh) (fun q => absurd c5 q))))))))) (hk0 _ rfl)
      · rw [if_neg c5] at h
        refine ax_cut (pc' := 332) (la := [some (.ref 1000), some (.ref 0), some (.ref 63), some (.int x3)]) [none, none, none, none] (st' := [.int (0 : Int32)]) (σ' := s20) 16 (trivial) (fun _ hh => (And.intro c1 (Exists.intro (some (.int v17), s18) (And.intro (e_X_print (d + 47) hz2) (And.intro c3 (Exists.intro (some (.int v19), s20) (And.intro (e_M_print (d + 47) hz4) (And.intro (fun q => absurd q c5) (fun _ => hh))))))))) ?_
        have h := Option.some.inj h
        subst r
        exact ax_end 1 (And.intro (Or.inl rfl) (hkr _ rfl))
theorem w_L_law_j333 (d : Nat) (xL : Nat) (xs : Nat → Int32) {o : ax_O} (x3 : Int32) (s : ax_S) (r : (ax_S) ⊕ (Int32 × ax_S)) (h : L_law_j333 xL xs x3 s = some r) (hk0 : ∀ (t0 : ax_S), r = (.inl t0) → ax_go true (some (xL, xs)) (ax_ev true (d + 53)) ax_m286 1074 [some (.ref 1000), some (.ref 0), some (.ref 63), some (.int x3)] [] t0 o) (hkr : ∀ q, r = (.inr q) → o = (some (.int q.1), q.2)) : ax_go true (some (xL, xs)) (ax_ev true (d + 53)) ax_m286 333 [some (.ref 1000), some (.ref 0), some (.ref 63), some (.int x3)] [] s o := by
  unfold L_law_j333 at h
  by_cases c1 : ((x3 + (1 : Int32)) < 0 ∨ xL ≤ ((x3 + (1 : Int32))).toNatClampNeg)
  · rw [if_pos c1] at h; cases h
  · rw [if_neg c1] at h
    cases hz2 : X_edits (xs ((x3 + (1 : Int32))).toNatClampNeg) s with
    | none => rw [hz2] at h; cases h
    | some z2 =>
    rw [hz2] at h
    obtain ⟨v22, s23⟩ := z2
    dsimp only at h
    by_cases c3 : ((x3 + (1 : Int32)) < 0 ∨ xL ≤ ((x3 + (1 : Int32))).toNatClampNeg)
    · rw [if_pos c3] at h; cases h
    · rw [if_neg c3] at h
      cases hz4 : M_edits (xs ((x3 + (1 : Int32))).toNatClampNeg) s23 with
      | none => rw [hz4] at h; cases h
      | some z4 =>
      rw [hz4] at h
      obtain ⟨v24, s25⟩ := z4
      dsimp only at h
      by_cases c5 : v22 = v24
      · rw [if_pos c5] at h
        have h := Option.some.inj h
        subst r
        exact ax_cut (pc' := 1074) (la := [some (.ref 1000), some (.ref 0), some (.ref 63), some (.int x3)]) [some (.ref 1000), some (.ref 0), some (.ref 63), some (.int x3)] (st' := []) (σ' := s25) 15 (And.intro rfl (And.intro rfl (And.intro rfl (And.intro rfl (trivial))))) (fun _ hh => (And.intro c1 (Exists.intro (some (.int v22), s23) (And.intro (e_X_edits (d + 46) hz2) (And.intro c3 (Exists.intro (some (.int v24), s25) (And.intro (e_M_edits (d + 47) hz4) (And.intro (fun _ => hh) (fun q => absurd c5 q))))))))) (hk0 _ rfl)
      · rw [if_neg c5] at h
        refine ax_cut (pc' := 355) (la := [some (.ref 1000), some (.ref 0), some (.ref 63), some (.int x3)]) [none, none, none, none] (st' := [.int (0 : Int32)]) (σ' := s25) 16 (trivial) (fun _ hh => (And.intro c1 (Exists.intro (some (.int v22), s23) (And.intro (e_X_edits (d + 46) hz2) (And.intro c3 (Exists.intro (some (.int v24), s25) (And.intro (e_M_edits (d + 47) hz4) (And.intro (fun q => absurd q c5) (fun _ => hh))))))))) ?_
        have h := Option.some.inj h
        subst r
        exact ax_end 1 (And.intro (Or.inl rfl) (hkr _ rfl))
theorem w_L_law_j356 (d : Nat) (xL : Nat) (xs : Nat → Int32) {o : ax_O} (x3 : Int32) (s : ax_S) (r : (ax_S) ⊕ (Int32 × ax_S)) (h : L_law_j356 xL xs x3 s = some r) (hk0 : ∀ (t0 : ax_S), r = (.inl t0) → ax_go true (some (xL, xs)) (ax_ev true (d + 53)) ax_m286 1074 [some (.ref 1000), some (.ref 0), some (.ref 63), some (.int x3)] [] t0 o) (hkr : ∀ q, r = (.inr q) → o = (some (.int q.1), q.2)) : ax_go true (some (xL, xs)) (ax_ev true (d + 53)) ax_m286 356 [some (.ref 1000), some (.ref 0), some (.ref 63), some (.int x3)] [] s o := by
  unfold L_law_j356 at h
  cases hz1 : X_mirror s with
  | none => rw [hz1] at h; cases h
  | some z1 =>
  rw [hz1] at h
  obtain ⟨v27, s28⟩ := z1
  dsimp only at h
  cases hz2 : M_mirror s28 with
  | none => rw [hz2] at h; cases h
  | some z2 =>
  rw [hz2] at h
  obtain ⟨v29, s30⟩ := z2
  dsimp only at h
  by_cases c3 : v27 = v29
  · rw [if_pos c3] at h
    have h := Option.some.inj h
    subst r
    exact ax_cut (pc' := 1074) (la := [some (.ref 1000), some (.ref 0), some (.ref 63), some (.int x3)]) [some (.ref 1000), some (.ref 0), some (.ref 63), some (.int x3)] (st' := []) (σ' := s30) 5 (And.intro rfl (And.intro rfl (And.intro rfl (And.intro rfl (trivial))))) (fun _ hh => (Exists.intro (some (.int v27), s28) (And.intro (e_X_mirror (d + 50) hz1) (Exists.intro (some (.int v29), s30) (And.intro (e_M_mirror (d + 50) hz2) (And.intro (fun _ => hh) (fun q => absurd c3 q))))))) (hk0 _ rfl)
  · rw [if_neg c3] at h
    have h := Option.some.inj h
    subst r
    exact ax_end 7 (Exists.intro (some (.int v27), s28) (And.intro (e_X_mirror (d + 50) hz1) (Exists.intro (some (.int v29), s30) (And.intro (e_M_mirror (d + 50) hz2) (And.intro (fun q => absurd q c3) (fun _ => (And.intro (Or.inl rfl) (hkr _ rfl))))))))
theorem w_L_law_j369 (d : Nat) (xL : Nat) (xs : Nat → Int32) {o : ax_O} (x3 : Int32) (s : ax_S) (r : (ax_S) ⊕ (Int32 × ax_S)) (h : L_law_j369 xL xs x3 s = some r) (hk0 : ∀ (t0 : ax_S), r = (.inl t0) → ax_go true (some (xL, xs)) (ax_ev true (d + 53)) ax_m286 1074 [some (.ref 1000), some (.ref 0), some (.ref 63), some (.int x3)] [] t0 o) (hkr : ∀ q, r = (.inr q) → o = (some (.int q.1), q.2)) : ax_go true (some (xL, xs)) (ax_ev true (d + 53)) ax_m286 369 [some (.ref 1000), some (.ref 0), some (.ref 63), some (.int x3)] [] s o := by
  unfold L_law_j369 at h
  by_cases c1 : ((x3 + (1 : Int32)) < 0 ∨ xL ≤ ((x3 + (1 : Int32))).toNatClampNeg)
  · rw [if_pos c1] at h; cases h
  · rw [if_neg c1] at h
    cases hz2 : X_days (xs ((x3 + (1 : Int32))).toNatClampNeg) s with
    | none => rw [hz2] at h; cases h
    | some z2 =>
    rw [hz2] at h
    obtain ⟨v32, s33⟩ := z2
    dsimp only at h
    by_cases c3 : ((x3 + (1 : Int32)) < 0 ∨ xL ≤ ((x3 + (1 : Int32))).toNatClampNeg)
    · rw [if_pos c3] at h; cases h
    · rw [if_neg c3] at h
      cases hz4 : M_days (xs ((x3 + (1 : Int32))).toNatClampNeg) s33 with
      | none => rw [hz4] at h; cases h
      | some z4 =>
      rw [hz4] at h
      obtain ⟨v34, s35⟩ := z4
      dsimp only at h
      by_cases c5 : v32 = v34
      · rw [if_pos c5] at h
        have h := Option.some.inj h
        subst r
        exact ax_cut (pc' := 1074) (la := [some (.ref 1000), some (.ref 0), some (.ref 63), some (.int x3)]) [some (.ref 1000), some (.ref 0), some (.ref 63), some (.int x3)] (st' := []) (σ' := s35) 15 (And.intro rfl (And.intro rfl (And.intro rfl (And.intro rfl (trivial))))) (fun _ hh => (And.intro c1 (Exists.intro (some (.int v32), s33) (And.intro (e_X_days (d + 46) hz2) (And.intro c3 (Exists.intro (some (.int v34), s35) (And.intro (e_M_days (d + 46) hz4) (And.intro (fun _ => hh) (fun q => absurd c5 q))))))))) (hk0 _ rfl)
      · rw [if_neg c5] at h
        refine ax_cut (pc' := 391) (la := [some (.ref 1000), some (.ref 0), some (.ref 63), some (.int x3)]) [none, none, none, none] (st' := [.int (0 : Int32)]) (σ' := s35) 16 (trivial) (fun _ hh => (And.intro c1 (Exists.intro (some (.int v32), s33) (And.intro (e_X_days (d + 46) hz2) (And.intro c3 (Exists.intro (some (.int v34), s35) (And.intro (e_M_days (d + 46) hz4) (And.intro (fun q => absurd q c5) (fun _ => hh))))))))) ?_
        have h := Option.some.inj h
        subst r
        exact ax_end 1 (And.intro (Or.inl rfl) (hkr _ rfl))
theorem w_L_law_j392 (d : Nat) (xL : Nat) (xs : Nat → Int32) {o : ax_O} (x3 : Int32) (s : ax_S) (r : (ax_S) ⊕ (Int32 × ax_S)) (h : L_law_j392 xL xs x3 s = some r) (hk0 : ∀ (t0 : ax_S), r = (.inl t0) → ax_go true (some (xL, xs)) (ax_ev true (d + 53)) ax_m286 1074 [some (.ref 1000), some (.ref 0), some (.ref 63), some (.int x3)] [] t0 o) (hkr : ∀ q, r = (.inr q) → o = (some (.int q.1), q.2)) : ax_go true (some (xL, xs)) (ax_ev true (d + 53)) ax_m286 392 [some (.ref 1000), some (.ref 0), some (.ref 63), some (.int x3)] [] s o := by
  unfold L_law_j392 at h
  by_cases c1 : ((x3 + (1 : Int32)) < 0 ∨ xL ≤ ((x3 + (1 : Int32))).toNatClampNeg)
  · rw [if_pos c1] at h; cases h
  · rw [if_neg c1] at h
    by_cases c2 : ((x3 + (2 : Int32)) < 0 ∨ xL ≤ ((x3 + (2 : Int32))).toNatClampNeg)
    · rw [if_pos c2] at h; cases h
    · rw [if_neg c2] at h
      cases hz3 : X_tried (xs ((x3 + (1 : Int32))).toNatClampNeg) (xs ((x3 + (2 : Int32))).toNatClampNeg) s with
      | none => rw [hz3] at h; cases h
      | some z3 =>
      rw [hz3] at h
      obtain ⟨v37, s38⟩ := z3
      dsimp only at h
      refine ax_cut (pc' := 410) (la := [some (.ref 1000), some (.ref 0), some (.ref 63), some (.int x3)]) [some (.ref 1000), some (.ref 0), some (.ref 63), some (.int x3)] (st' := [.int (1 : Int32), .int x3, .ref 1000, .ref 63, .int v37]) (σ' := s38) 16 (And.intro rfl (And.intro rfl (And.intro rfl (And.intro rfl (trivial))))) (fun _ hh => (And.intro c1 (And.intro c2 (Exists.intro (some (.int v37), s38) (And.intro (e_X_tried (d + 46) hz3) hh))))) ?_
      by_cases c4 : ((x3 + (1 : Int32)) < 0 ∨ xL ≤ ((x3 + (1 : Int32))).toNatClampNeg)
      · rw [if_pos c4] at h; cases h
      · rw [if_neg c4] at h
        by_cases c5 : ((x3 + (2 : Int32)) < 0 ∨ xL ≤ ((x3 + (2 : Int32))).toNatClampNeg)
        · rw [if_pos c5] at h; cases h
        · rw [if_neg c5] at h
          cases hz6 : M_tried (xs ((x3 + (1 : Int32))).toNatClampNeg) (xs ((x3 + (2 : Int32))).toNatClampNeg) s38 with
          | none => rw [hz6] at h; cases h
          | some z6 =>
          rw [hz6] at h
          obtain ⟨v39, s40⟩ := z6
          dsimp only at h
          by_cases c7 : v37 = v39
          · rw [if_pos c7] at h
            have h := Option.some.inj h
            subst r
            exact ax_cut (pc' := 1074) (la := [some (.ref 1000), some (.ref 0), some (.ref 63), some (.int x3)]) [some (.ref 1000), some (.ref 0), some (.ref 63), some (.int x3)] (st' := []) (σ' := s40) 9 (And.intro rfl (And.intro rfl (And.intro rfl (And.intro rfl (trivial))))) (fun _ hh => (And.intro c4 (And.intro c5 (Exists.intro (some (.int v39), s40) (And.intro (e_M_tried (d + 46) hz6) (And.intro (fun _ => hh) (fun q => absurd c7 q))))))) (hk0 _ rfl)
          · rw [if_neg c7] at h
            have h := Option.some.inj h
            subst r
            exact ax_end 11 (And.intro c4 (And.intro c5 (Exists.intro (some (.int v39), s40) (And.intro (e_M_tried (d + 46) hz6) (And.intro (fun q => absurd q c7) (fun _ => (And.intro (Or.inl rfl) (hkr _ rfl))))))))
theorem w_L_law_j425 (d : Nat) (xL : Nat) (xs : Nat → Int32) {o : ax_O} (x3 : Int32) (s : ax_S) (r : (ax_S) ⊕ (Int32 × ax_S)) (h : L_law_j425 xL xs x3 s = some r) (hk0 : ∀ (t0 : ax_S), r = (.inl t0) → ax_go true (some (xL, xs)) (ax_ev true (d + 53)) ax_m286 1074 [some (.ref 1000), some (.ref 0), some (.ref 63), some (.int x3)] [] t0 o) (hkr : ∀ q, r = (.inr q) → o = (some (.int q.1), q.2)) : ax_go true (some (xL, xs)) (ax_ev true (d + 53)) ax_m286 425 [some (.ref 1000), some (.ref 0), some (.ref 63), some (.int x3)] [] s o := by
  unfold L_law_j425 at h
  by_cases c1 : ((x3 + (1 : Int32)) < 0 ∨ xL ≤ ((x3 + (1 : Int32))).toNatClampNeg)
  · rw [if_pos c1] at h; cases h
  · rw [if_neg c1] at h
    by_cases c2 : ((x3 + (2 : Int32)) < 0 ∨ xL ≤ ((x3 + (2 : Int32))).toNatClampNeg)
    · rw [if_pos c2] at h; cases h
    · rw [if_neg c2] at h
      cases hz3 : X_figureIs (xs ((x3 + (1 : Int32))).toNatClampNeg) (xs ((x3 + (2 : Int32))).toNatClampNeg) s with
      | none => rw [hz3] at h; cases h
      | some z3 =>
      rw [hz3] at h
      obtain ⟨v42, s43⟩ := z3
      dsimp only at h
      refine ax_cut (pc' := 443) (la := [some (.ref 1000), some (.ref 0), some (.ref 63), some (.int x3)]) [some (.ref 1000), some (.ref 0), some (.ref 63), some (.int x3)] (st' := [.int (1 : Int32), .int x3, .ref 1000, .ref 63, .int v42]) (σ' := s43) 16 (And.intro rfl (And.intro rfl (And.intro rfl (And.intro rfl (trivial))))) (fun _ hh => (And.intro c1 (And.intro c2 (Exists.intro (some (.int v42), s43) (And.intro (e_X_figureIs (d + 48) hz3) hh))))) ?_
      by_cases c4 : ((x3 + (1 : Int32)) < 0 ∨ xL ≤ ((x3 + (1 : Int32))).toNatClampNeg)
      · rw [if_pos c4] at h; cases h
      · rw [if_neg c4] at h
        by_cases c5 : ((x3 + (2 : Int32)) < 0 ∨ xL ≤ ((x3 + (2 : Int32))).toNatClampNeg)
        · rw [if_pos c5] at h; cases h
        · rw [if_neg c5] at h
          cases hz6 : M_figureIs (xs ((x3 + (1 : Int32))).toNatClampNeg) (xs ((x3 + (2 : Int32))).toNatClampNeg) s43 with
          | none => rw [hz6] at h; cases h
          | some v44 =>
          rw [hz6] at h
          dsimp only at h
          by_cases c7 : v42 = v44
          · rw [if_pos c7] at h
            have h := Option.some.inj h
            subst r
            exact ax_cut (pc' := 1074) (la := [some (.ref 1000), some (.ref 0), some (.ref 63), some (.int x3)]) [some (.ref 1000), some (.ref 0), some (.ref 63), some (.int x3)] (st' := []) (σ' := s43) 9 (And.intro rfl (And.intro rfl (And.intro rfl (And.intro rfl (trivial))))) (fun _ hh => (And.intro c4 (And.intro c5 (Exists.intro (some (.int v44), s43) (And.intro (e_M_figureIs (d + 48) hz6) (And.intro (fun _ => hh) (fun q => absurd c7 q))))))) (hk0 _ rfl)
          · rw [if_neg c7] at h
            have h := Option.some.inj h
            subst r
            exact ax_end 11 (And.intro c4 (And.intro c5 (Exists.intro (some (.int v44), s43) (And.intro (e_M_figureIs (d + 48) hz6) (And.intro (fun q => absurd q c7) (fun _ => (And.intro (Or.inl rfl) (hkr _ rfl))))))))
theorem w_L_law_j458 (d : Nat) (xL : Nat) (xs : Nat → Int32) {o : ax_O} (x3 : Int32) (s : ax_S) (r : (ax_S) ⊕ (Int32 × ax_S)) (h : L_law_j458 xL xs x3 s = some r) (hk0 : ∀ (t0 : ax_S), r = (.inl t0) → ax_go true (some (xL, xs)) (ax_ev true (d + 53)) ax_m286 1074 [some (.ref 1000), some (.ref 0), some (.ref 63), some (.int x3)] [] t0 o) (hkr : ∀ q, r = (.inr q) → o = (some (.int q.1), q.2)) : ax_go true (some (xL, xs)) (ax_ev true (d + 53)) ax_m286 458 [some (.ref 1000), some (.ref 0), some (.ref 63), some (.int x3)] [] s o := by
  unfold L_law_j458 at h
  by_cases c1 : ((x3 + (1 : Int32)) < 0 ∨ xL ≤ ((x3 + (1 : Int32))).toNatClampNeg)
  · rw [if_pos c1] at h; cases h
  · rw [if_neg c1] at h
    by_cases c2 : ((x3 + (2 : Int32)) < 0 ∨ xL ≤ ((x3 + (2 : Int32))).toNatClampNeg)
    · rw [if_pos c2] at h; cases h
    · rw [if_neg c2] at h
      cases hz3 : X_personIs (xs ((x3 + (1 : Int32))).toNatClampNeg) (xs ((x3 + (2 : Int32))).toNatClampNeg) s with
      | none => rw [hz3] at h; cases h
      | some z3 =>
      rw [hz3] at h
      obtain ⟨v46, s47⟩ := z3
      dsimp only at h
      refine ax_cut (pc' := 476) (la := [some (.ref 1000), some (.ref 0), some (.ref 63), some (.int x3)]) [some (.ref 1000), some (.ref 0), some (.ref 63), some (.int x3)] (st' := [.int (1 : Int32), .int x3, .ref 1000, .ref 63, .int v46]) (σ' := s47) 16 (And.intro rfl (And.intro rfl (And.intro rfl (And.intro rfl (trivial))))) (fun _ hh => (And.intro c1 (And.intro c2 (Exists.intro (some (.int v46), s47) (And.intro (e_X_personIs (d + 48) hz3) hh))))) ?_
      by_cases c4 : ((x3 + (1 : Int32)) < 0 ∨ xL ≤ ((x3 + (1 : Int32))).toNatClampNeg)
      · rw [if_pos c4] at h; cases h
      · rw [if_neg c4] at h
        by_cases c5 : ((x3 + (2 : Int32)) < 0 ∨ xL ≤ ((x3 + (2 : Int32))).toNatClampNeg)
        · rw [if_pos c5] at h; cases h
        · rw [if_neg c5] at h
          cases hz6 : M_personIs (xs ((x3 + (1 : Int32))).toNatClampNeg) (xs ((x3 + (2 : Int32))).toNatClampNeg) s47 with
          | none => rw [hz6] at h; cases h
          | some v48 =>
          rw [hz6] at h
          dsimp only at h
          by_cases c7 : v46 = v48
          · rw [if_pos c7] at h
            have h := Option.some.inj h
            subst r
            exact ax_cut (pc' := 1074) (la := [some (.ref 1000), some (.ref 0), some (.ref 63), some (.int x3)]) [some (.ref 1000), some (.ref 0), some (.ref 63), some (.int x3)] (st' := []) (σ' := s47) 9 (And.intro rfl (And.intro rfl (And.intro rfl (And.intro rfl (trivial))))) (fun _ hh => (And.intro c4 (And.intro c5 (Exists.intro (some (.int v48), s47) (And.intro (e_M_personIs (d + 48) hz6) (And.intro (fun _ => hh) (fun q => absurd c7 q))))))) (hk0 _ rfl)
          · rw [if_neg c7] at h
            have h := Option.some.inj h
            subst r
            exact ax_end 11 (And.intro c4 (And.intro c5 (Exists.intro (some (.int v48), s47) (And.intro (e_M_personIs (d + 48) hz6) (And.intro (fun q => absurd q c7) (fun _ => (And.intro (Or.inl rfl) (hkr _ rfl))))))))
theorem w_L_law_j491 (d : Nat) (xL : Nat) (xs : Nat → Int32) {o : ax_O} (x3 : Int32) (s : ax_S) (r : (ax_S) ⊕ (Int32 × ax_S)) (h : L_law_j491 xL xs x3 s = some r) (hk0 : ∀ (t0 : ax_S), r = (.inl t0) → ax_go true (some (xL, xs)) (ax_ev true (d + 53)) ax_m286 1074 [some (.ref 1000), some (.ref 0), some (.ref 63), some (.int x3)] [] t0 o) (hkr : ∀ q, r = (.inr q) → o = (some (.int q.1), q.2)) : ax_go true (some (xL, xs)) (ax_ev true (d + 53)) ax_m286 491 [some (.ref 1000), some (.ref 0), some (.ref 63), some (.int x3)] [] s o := by
  unfold L_law_j491 at h
  by_cases c1 : ((x3 + (1 : Int32)) < 0 ∨ xL ≤ ((x3 + (1 : Int32))).toNatClampNeg)
  · rw [if_pos c1] at h; cases h
  · rw [if_neg c1] at h
    by_cases c2 : ((x3 + (2 : Int32)) < 0 ∨ xL ≤ ((x3 + (2 : Int32))).toNatClampNeg)
    · rw [if_pos c2] at h; cases h
    · rw [if_neg c2] at h
      cases hz3 : X_without (xs ((x3 + (1 : Int32))).toNatClampNeg) (xs ((x3 + (2 : Int32))).toNatClampNeg) s with
      | none => rw [hz3] at h; cases h
      | some z3 =>
      rw [hz3] at h
      obtain ⟨v50, s51⟩ := z3
      dsimp only at h
      refine ax_cut (pc' := 509) (la := [some (.ref 1000), some (.ref 0), some (.ref 63), some (.int x3)]) [some (.ref 1000), some (.ref 0), some (.ref 63), some (.int x3)] (st' := [.int (1 : Int32), .int x3, .ref 1000, .ref 63, .int v50]) (σ' := s51) 16 (And.intro rfl (And.intro rfl (And.intro rfl (And.intro rfl (trivial))))) (fun _ hh => (And.intro c1 (And.intro c2 (Exists.intro (some (.int v50), s51) (And.intro (e_X_without (d + 48) hz3) hh))))) ?_
      by_cases c4 : ((x3 + (1 : Int32)) < 0 ∨ xL ≤ ((x3 + (1 : Int32))).toNatClampNeg)
      · rw [if_pos c4] at h; cases h
      · rw [if_neg c4] at h
        by_cases c5 : ((x3 + (2 : Int32)) < 0 ∨ xL ≤ ((x3 + (2 : Int32))).toNatClampNeg)
        · rw [if_pos c5] at h; cases h
        · rw [if_neg c5] at h
          cases hz6 : M_without (xs ((x3 + (1 : Int32))).toNatClampNeg) (xs ((x3 + (2 : Int32))).toNatClampNeg) s51 with
          | none => rw [hz6] at h; cases h
          | some z6 =>
          rw [hz6] at h
          obtain ⟨v52, s53⟩ := z6
          dsimp only at h
          by_cases c7 : v50 = v52
          · rw [if_pos c7] at h
            have h := Option.some.inj h
            subst r
            exact ax_cut (pc' := 1074) (la := [some (.ref 1000), some (.ref 0), some (.ref 63), some (.int x3)]) [some (.ref 1000), some (.ref 0), some (.ref 63), some (.int x3)] (st' := []) (σ' := s53) 9 (And.intro rfl (And.intro rfl (And.intro rfl (And.intro rfl (trivial))))) (fun _ hh => (And.intro c4 (And.intro c5 (Exists.intro (some (.int v52), s53) (And.intro (e_M_without (d + 48) hz6) (And.intro (fun _ => hh) (fun q => absurd c7 q))))))) (hk0 _ rfl)
          · rw [if_neg c7] at h
            have h := Option.some.inj h
            subst r
            exact ax_end 11 (And.intro c4 (And.intro c5 (Exists.intro (some (.int v52), s53) (And.intro (e_M_without (d + 48) hz6) (And.intro (fun q => absurd q c7) (fun _ => (And.intro (Or.inl rfl) (hkr _ rfl))))))))
theorem w_L_law_j524 (d : Nat) (xL : Nat) (xs : Nat → Int32) {o : ax_O} (x3 : Int32) (s : ax_S) (r : (ax_S) ⊕ (Int32 × ax_S)) (h : L_law_j524 xL xs x3 s = some r) (hk0 : ∀ (t0 : ax_S), r = (.inl t0) → ax_go true (some (xL, xs)) (ax_ev true (d + 53)) ax_m286 1074 [some (.ref 1000), some (.ref 0), some (.ref 63), some (.int x3)] [] t0 o) (hkr : ∀ q, r = (.inr q) → o = (some (.int q.1), q.2)) : ax_go true (some (xL, xs)) (ax_ev true (d + 53)) ax_m286 524 [some (.ref 1000), some (.ref 0), some (.ref 63), some (.int x3)] [] s o := by
  unfold L_law_j524 at h
  by_cases c1 : ((x3 + (1 : Int32)) < 0 ∨ xL ≤ ((x3 + (1 : Int32))).toNatClampNeg)
  · rw [if_pos c1] at h; cases h
  · rw [if_neg c1] at h
    cases hz2 : X_today (xs ((x3 + (1 : Int32))).toNatClampNeg) s with
    | none => rw [hz2] at h; cases h
    | some z2 =>
    rw [hz2] at h
    obtain ⟨v55, s56⟩ := z2
    dsimp only at h
    by_cases c3 : ((x3 + (1 : Int32)) < 0 ∨ xL ≤ ((x3 + (1 : Int32))).toNatClampNeg)
    · rw [if_pos c3] at h; cases h
    · rw [if_neg c3] at h
      cases hz4 : M_today (xs ((x3 + (1 : Int32))).toNatClampNeg) s56 with
      | none => rw [hz4] at h; cases h
      | some z4 =>
      rw [hz4] at h
      obtain ⟨v57, s58⟩ := z4
      dsimp only at h
      by_cases c5 : v55 = v57
      · rw [if_pos c5] at h
        have h := Option.some.inj h
        subst r
        exact ax_cut (pc' := 1074) (la := [some (.ref 1000), some (.ref 0), some (.ref 63), some (.int x3)]) [some (.ref 1000), some (.ref 0), some (.ref 63), some (.int x3)] (st' := []) (σ' := s58) 15 (And.intro rfl (And.intro rfl (And.intro rfl (And.intro rfl (trivial))))) (fun _ hh => (And.intro c1 (Exists.intro (some (.int v55), s56) (And.intro (e_X_today (d + 48) hz2) (And.intro c3 (Exists.intro (some (.int v57), s58) (And.intro (e_M_today (d + 47) hz4) (And.intro (fun _ => hh) (fun q => absurd c5 q))))))))) (hk0 _ rfl)
      · rw [if_neg c5] at h
        refine ax_cut (pc' := 546) (la := [some (.ref 1000), some (.ref 0), some (.ref 63), some (.int x3)]) [none, none, none, none] (st' := [.int (0 : Int32)]) (σ' := s58) 16 (trivial) (fun _ hh => (And.intro c1 (Exists.intro (some (.int v55), s56) (And.intro (e_X_today (d + 48) hz2) (And.intro c3 (Exists.intro (some (.int v57), s58) (And.intro (e_M_today (d + 47) hz4) (And.intro (fun q => absurd q c5) (fun _ => hh))))))))) ?_
        have h := Option.some.inj h
        subst r
        exact ax_end 1 (And.intro (Or.inl rfl) (hkr _ rfl))
theorem w_L_law_j547 (d : Nat) (xL : Nat) (xs : Nat → Int32) {o : ax_O} (x3 : Int32) (s : ax_S) (r : (ax_S) ⊕ (Int32 × ax_S)) (h : L_law_j547 xL xs x3 s = some r) (hk0 : ∀ (t0 : ax_S), r = (.inl t0) → ax_go true (some (xL, xs)) (ax_ev true (d + 53)) ax_m286 1074 [some (.ref 1000), some (.ref 0), some (.ref 63), some (.int x3)] [] t0 o) (hkr : ∀ q, r = (.inr q) → o = (some (.int q.1), q.2)) : ax_go true (some (xL, xs)) (ax_ev true (d + 53)) ax_m286 547 [some (.ref 1000), some (.ref 0), some (.ref 63), some (.int x3)] [] s o := by
  unfold L_law_j547 at h
  by_cases c1 : ((x3 + (1 : Int32)) < 0 ∨ xL ≤ ((x3 + (1 : Int32))).toNatClampNeg)
  · rw [if_pos c1] at h; cases h
  · rw [if_neg c1] at h
    by_cases c2 : ((x3 + (2 : Int32)) < 0 ∨ xL ≤ ((x3 + (2 : Int32))).toNatClampNeg)
    · rw [if_pos c2] at h; cases h
    · rw [if_neg c2] at h
      by_cases c3 : ((x3 + (3 : Int32)) < 0 ∨ xL ≤ ((x3 + (3 : Int32))).toNatClampNeg)
      · rw [if_pos c3] at h; cases h
      · rw [if_neg c3] at h
        refine ax_cut (pc' := 563) (la := [some (.ref 1000), some (.ref 0), some (.ref 63), some (.int x3)]) [some (.ref 1000), some (.ref 0), some (.ref 63), some (.int x3)] (st' := [.int (xs ((x3 + (3 : Int32))).toNatClampNeg), .int (xs ((x3 + (2 : Int32))).toNatClampNeg), .int (xs ((x3 + (1 : Int32))).toNatClampNeg), .ref 0]) (σ' := s) 16 (And.intro rfl (And.intro rfl (And.intro rfl (And.intro rfl (trivial))))) (fun _ hh => (And.intro c1 (And.intro c2 (And.intro c3 hh)))) ?_
        by_cases c4 : ((x3 + (4 : Int32)) < 0 ∨ xL ≤ ((x3 + (4 : Int32))).toNatClampNeg)
        · rw [if_pos c4] at h; cases h
        · rw [if_neg c4] at h
          by_cases c5 : ((x3 + (5 : Int32)) < 0 ∨ xL ≤ ((x3 + (5 : Int32))).toNatClampNeg)
          · rw [if_pos c5] at h; cases h
          · rw [if_neg c5] at h
            cases hz6 : X_shows (xs ((x3 + (1 : Int32))).toNatClampNeg) (xs ((x3 + (2 : Int32))).toNatClampNeg) (xs ((x3 + (3 : Int32))).toNatClampNeg) (xs ((x3 + (4 : Int32))).toNatClampNeg) (xs ((x3 + (5 : Int32))).toNatClampNeg) s with
            | none => rw [hz6] at h; cases h
            | some v60 =>
            rw [hz6] at h
            dsimp only at h
            refine ax_cut (pc' := 581) (la := [some (.ref 1000), some (.ref 0), some (.ref 63), some (.int x3)]) [some (.ref 1000), some (.ref 0), some (.ref 63), some (.int x3)] (st' := [.int (x3 + (1 : Int32)), .ref 1000, .ref 63, .int v60]) (σ' := s) 16 (And.intro rfl (And.intro rfl (And.intro rfl (And.intro rfl (trivial))))) (fun _ hh => (And.intro c4 (And.intro c5 (Exists.intro (some (.int v60), s) (And.intro (e_X_shows (d + 49) hz6) hh))))) ?_
            by_cases c7 : ((x3 + (1 : Int32)) < 0 ∨ xL ≤ ((x3 + (1 : Int32))).toNatClampNeg)
            · rw [if_pos c7] at h; cases h
            · rw [if_neg c7] at h
              by_cases c8 : ((x3 + (2 : Int32)) < 0 ∨ xL ≤ ((x3 + (2 : Int32))).toNatClampNeg)
              · rw [if_pos c8] at h; cases h
              · rw [if_neg c8] at h
                by_cases c9 : ((x3 + (3 : Int32)) < 0 ∨ xL ≤ ((x3 + (3 : Int32))).toNatClampNeg)
                · rw [if_pos c9] at h; cases h
                · rw [if_neg c9] at h
                  by_cases c10 : ((x3 + (4 : Int32)) < 0 ∨ xL ≤ ((x3 + (4 : Int32))).toNatClampNeg)
                  · rw [if_pos c10] at h; cases h
                  · rw [if_neg c10] at h
                    refine ax_cut (pc' := 597) (la := [some (.ref 1000), some (.ref 0), some (.ref 63), some (.int x3)]) [some (.ref 1000), some (.ref 0), some (.ref 63), some (.int x3)] (st' := [.int (xs ((x3 + (4 : Int32))).toNatClampNeg), .int (xs ((x3 + (3 : Int32))).toNatClampNeg), .int (xs ((x3 + (2 : Int32))).toNatClampNeg), .int (xs ((x3 + (1 : Int32))).toNatClampNeg), .ref 63, .int v60]) (σ' := s) 16 (And.intro rfl (And.intro rfl (And.intro rfl (And.intro rfl (trivial))))) (fun _ hh => (And.intro c7 (And.intro c8 (And.intro c9 (And.intro c10 hh))))) ?_
                    by_cases c11 : ((x3 + (5 : Int32)) < 0 ∨ xL ≤ ((x3 + (5 : Int32))).toNatClampNeg)
                    · rw [if_pos c11] at h; cases h
                    · rw [if_neg c11] at h
                      cases hz12 : M_shows (xs ((x3 + (1 : Int32))).toNatClampNeg) (xs ((x3 + (2 : Int32))).toNatClampNeg) (xs ((x3 + (3 : Int32))).toNatClampNeg) (xs ((x3 + (4 : Int32))).toNatClampNeg) (xs ((x3 + (5 : Int32))).toNatClampNeg) s with
                      | none => rw [hz12] at h; cases h
                      | some v61 =>
                      rw [hz12] at h
                      dsimp only at h
                      by_cases c13 : v60 = v61
                      · rw [if_pos c13] at h
                        have h := Option.some.inj h
                        subst r
                        exact ax_cut (pc' := 1074) (la := [some (.ref 1000), some (.ref 0), some (.ref 63), some (.int x3)]) [some (.ref 1000), some (.ref 0), some (.ref 63), some (.int x3)] (st' := []) (σ' := s) 7 (And.intro rfl (And.intro rfl (And.intro rfl (And.intro rfl (trivial))))) (fun _ hh => (And.intro c11 (Exists.intro (some (.int v61), s) (And.intro (e_M_shows (d + 49) hz12) (And.intro (fun _ => hh) (fun q => absurd c13 q)))))) (hk0 _ rfl)
                      · rw [if_neg c13] at h
                        have h := Option.some.inj h
                        subst r
                        exact ax_end 9 (And.intro c11 (Exists.intro (some (.int v61), s) (And.intro (e_M_shows (d + 49) hz12) (And.intro (fun q => absurd q c13) (fun _ => (And.intro (Or.inl rfl) (hkr _ rfl)))))))
theorem w_L_law_j610 (d : Nat) (xL : Nat) (xs : Nat → Int32) {o : ax_O} (x3 : Int32) (s : ax_S) (r : (ax_S) ⊕ (Int32 × ax_S)) (h : L_law_j610 xL xs x3 s = some r) (hk0 : ∀ (t0 : ax_S), r = (.inl t0) → ax_go true (some (xL, xs)) (ax_ev true (d + 53)) ax_m286 1074 [some (.ref 1000), some (.ref 0), some (.ref 63), some (.int x3)] [] t0 o) (hkr : ∀ q, r = (.inr q) → o = (some (.int q.1), q.2)) : ax_go true (some (xL, xs)) (ax_ev true (d + 53)) ax_m286 610 [some (.ref 1000), some (.ref 0), some (.ref 63), some (.int x3)] [] s o := by
  unfold L_law_j610 at h
  by_cases c1 : ((x3 + (1 : Int32)) < 0 ∨ xL ≤ ((x3 + (1 : Int32))).toNatClampNeg)
  · rw [if_pos c1] at h; cases h
  · rw [if_neg c1] at h
    cases hz2 : X_sky (xs ((x3 + (1 : Int32))).toNatClampNeg) s with
    | none => rw [hz2] at h; cases h
    | some z2 =>
    rw [hz2] at h
    obtain ⟨v63, s64⟩ := z2
    dsimp only at h
    by_cases c3 : ((x3 + (1 : Int32)) < 0 ∨ xL ≤ ((x3 + (1 : Int32))).toNatClampNeg)
    · rw [if_pos c3] at h; cases h
    · rw [if_neg c3] at h
      cases hz4 : M_sky (xs ((x3 + (1 : Int32))).toNatClampNeg) s64 with
      | none => rw [hz4] at h; cases h
      | some z4 =>
      rw [hz4] at h
      obtain ⟨v65, s66⟩ := z4
      dsimp only at h
      by_cases c5 : v63 = v65
      · rw [if_pos c5] at h
        have h := Option.some.inj h
        subst r
        exact ax_cut (pc' := 1074) (la := [some (.ref 1000), some (.ref 0), some (.ref 63), some (.int x3)]) [some (.ref 1000), some (.ref 0), some (.ref 63), some (.int x3)] (st' := []) (σ' := s66) 15 (And.intro rfl (And.intro rfl (And.intro rfl (And.intro rfl (trivial))))) (fun _ hh => (And.intro c1 (Exists.intro (some (.int v63), s64) (And.intro (e_X_sky (d + 48) hz2) (And.intro c3 (Exists.intro (some (.int v65), s66) (And.intro (e_M_sky (d + 47) hz4) (And.intro (fun _ => hh) (fun q => absurd c5 q))))))))) (hk0 _ rfl)
      · rw [if_neg c5] at h
        refine ax_cut (pc' := 632) (la := [some (.ref 1000), some (.ref 0), some (.ref 63), some (.int x3)]) [none, none, none, none] (st' := [.int (0 : Int32)]) (σ' := s66) 16 (trivial) (fun _ hh => (And.intro c1 (Exists.intro (some (.int v63), s64) (And.intro (e_X_sky (d + 48) hz2) (And.intro c3 (Exists.intro (some (.int v65), s66) (And.intro (e_M_sky (d + 47) hz4) (And.intro (fun q => absurd q c5) (fun _ => hh))))))))) ?_
        have h := Option.some.inj h
        subst r
        exact ax_end 1 (And.intro (Or.inl rfl) (hkr _ rfl))
theorem w_L_law_j633 (d : Nat) (xL : Nat) (xs : Nat → Int32) {o : ax_O} (x3 : Int32) (s : ax_S) (r : (ax_S) ⊕ (Int32 × ax_S)) (h : L_law_j633 xL xs x3 s = some r) (hk0 : ∀ (t0 : ax_S), r = (.inl t0) → ax_go true (some (xL, xs)) (ax_ev true (d + 53)) ax_m286 1074 [some (.ref 1000), some (.ref 0), some (.ref 63), some (.int x3)] [] t0 o) (hkr : ∀ q, r = (.inr q) → o = (some (.int q.1), q.2)) : ax_go true (some (xL, xs)) (ax_ev true (d + 53)) ax_m286 633 [some (.ref 1000), some (.ref 0), some (.ref 63), some (.int x3)] [] s o := by
  unfold L_law_j633 at h
  by_cases c1 : ((x3 + (1 : Int32)) < 0 ∨ xL ≤ ((x3 + (1 : Int32))).toNatClampNeg)
  · rw [if_pos c1] at h; cases h
  · rw [if_neg c1] at h
    by_cases c2 : ((x3 + (2 : Int32)) < 0 ∨ xL ≤ ((x3 + (2 : Int32))).toNatClampNeg)
    · rw [if_pos c2] at h; cases h
    · rw [if_neg c2] at h
      cases hz3 : X_smallest (xs ((x3 + (1 : Int32))).toNatClampNeg) (xs ((x3 + (2 : Int32))).toNatClampNeg) s with
      | none => rw [hz3] at h; cases h
      | some z3 =>
      rw [hz3] at h
      obtain ⟨v68, s69⟩ := z3
      dsimp only at h
      refine ax_cut (pc' := 651) (la := [some (.ref 1000), some (.ref 0), some (.ref 63), some (.int x3)]) [some (.ref 1000), some (.ref 0), some (.ref 63), some (.int x3)] (st' := [.int (1 : Int32), .int x3, .ref 1000, .ref 63, .int v68]) (σ' := s69) 16 (And.intro rfl (And.intro rfl (And.intro rfl (And.intro rfl (trivial))))) (fun _ hh => (And.intro c1 (And.intro c2 (Exists.intro (some (.int v68), s69) (And.intro (e_X_smallest (d + 47) hz3) hh))))) ?_
      by_cases c4 : ((x3 + (1 : Int32)) < 0 ∨ xL ≤ ((x3 + (1 : Int32))).toNatClampNeg)
      · rw [if_pos c4] at h; cases h
      · rw [if_neg c4] at h
        by_cases c5 : ((x3 + (2 : Int32)) < 0 ∨ xL ≤ ((x3 + (2 : Int32))).toNatClampNeg)
        · rw [if_pos c5] at h; cases h
        · rw [if_neg c5] at h
          cases hz6 : M_smallest (xs ((x3 + (1 : Int32))).toNatClampNeg) (xs ((x3 + (2 : Int32))).toNatClampNeg) s69 with
          | none => rw [hz6] at h; cases h
          | some z6 =>
          rw [hz6] at h
          obtain ⟨v70, s71⟩ := z6
          dsimp only at h
          by_cases c7 : v68 = v70
          · rw [if_pos c7] at h
            have h := Option.some.inj h
            subst r
            exact ax_cut (pc' := 1074) (la := [some (.ref 1000), some (.ref 0), some (.ref 63), some (.int x3)]) [some (.ref 1000), some (.ref 0), some (.ref 63), some (.int x3)] (st' := []) (σ' := s71) 9 (And.intro rfl (And.intro rfl (And.intro rfl (And.intro rfl (trivial))))) (fun _ hh => (And.intro c4 (And.intro c5 (Exists.intro (some (.int v70), s71) (And.intro (e_M_smallest (d + 48) hz6) (And.intro (fun _ => hh) (fun q => absurd c7 q))))))) (hk0 _ rfl)
          · rw [if_neg c7] at h
            have h := Option.some.inj h
            subst r
            exact ax_end 11 (And.intro c4 (And.intro c5 (Exists.intro (some (.int v70), s71) (And.intro (e_M_smallest (d + 48) hz6) (And.intro (fun q => absurd q c7) (fun _ => (And.intro (Or.inl rfl) (hkr _ rfl))))))))
theorem w_L_law_j666 (d : Nat) (xL : Nat) (xs : Nat → Int32) {o : ax_O} (x3 : Int32) (s : ax_S) (r : (ax_S) ⊕ (Int32 × ax_S)) (h : L_law_j666 xL xs x3 s = some r) (hk0 : ∀ (t0 : ax_S), r = (.inl t0) → ax_go true (some (xL, xs)) (ax_ev true (d + 53)) ax_m286 1074 [some (.ref 1000), some (.ref 0), some (.ref 63), some (.int x3)] [] t0 o) (hkr : ∀ q, r = (.inr q) → o = (some (.int q.1), q.2)) : ax_go true (some (xL, xs)) (ax_ev true (d + 53)) ax_m286 666 [some (.ref 1000), some (.ref 0), some (.ref 63), some (.int x3)] [] s o := by
  unfold L_law_j666 at h
  by_cases c1 : ((x3 + (1 : Int32)) < 0 ∨ xL ≤ ((x3 + (1 : Int32))).toNatClampNeg)
  · rw [if_pos c1] at h; cases h
  · rw [if_neg c1] at h
    by_cases c2 : ((x3 + (2 : Int32)) < 0 ∨ xL ≤ ((x3 + (2 : Int32))).toNatClampNeg)
    · rw [if_pos c2] at h; cases h
    · rw [if_neg c2] at h
      cases hz3 : X_smallestOf (xs ((x3 + (1 : Int32))).toNatClampNeg) (xs ((x3 + (2 : Int32))).toNatClampNeg) s with
      | none => rw [hz3] at h; cases h
      | some z3 =>
      rw [hz3] at h
      obtain ⟨v73, s74⟩ := z3
      dsimp only at h
      refine ax_cut (pc' := 684) (la := [some (.ref 1000), some (.ref 0), some (.ref 63), some (.int x3)]) [some (.ref 1000), some (.ref 0), some (.ref 63), some (.int x3)] (st' := [.int (1 : Int32), .int x3, .ref 1000, .ref 63, .int v73]) (σ' := s74) 16 (And.intro rfl (And.intro rfl (And.intro rfl (And.intro rfl (trivial))))) (fun _ hh => (And.intro c1 (And.intro c2 (Exists.intro (some (.int v73), s74) (And.intro (e_X_smallestOf (d + 47) hz3) hh))))) ?_
      by_cases c4 : ((x3 + (1 : Int32)) < 0 ∨ xL ≤ ((x3 + (1 : Int32))).toNatClampNeg)
      · rw [if_pos c4] at h; cases h
      · rw [if_neg c4] at h
        by_cases c5 : ((x3 + (2 : Int32)) < 0 ∨ xL ≤ ((x3 + (2 : Int32))).toNatClampNeg)
        · rw [if_pos c5] at h; cases h
        · rw [if_neg c5] at h
          cases hz6 : M_smallestOf (xs ((x3 + (1 : Int32))).toNatClampNeg) (xs ((x3 + (2 : Int32))).toNatClampNeg) s74 with
          | none => rw [hz6] at h; cases h
          | some z6 =>
          rw [hz6] at h
          obtain ⟨v75, s76⟩ := z6
          dsimp only at h
          by_cases c7 : v73 = v75
          · rw [if_pos c7] at h
            have h := Option.some.inj h
            subst r
            exact ax_cut (pc' := 1074) (la := [some (.ref 1000), some (.ref 0), some (.ref 63), some (.int x3)]) [some (.ref 1000), some (.ref 0), some (.ref 63), some (.int x3)] (st' := []) (σ' := s76) 9 (And.intro rfl (And.intro rfl (And.intro rfl (And.intro rfl (trivial))))) (fun _ hh => (And.intro c4 (And.intro c5 (Exists.intro (some (.int v75), s76) (And.intro (e_M_smallestOf (d + 48) hz6) (And.intro (fun _ => hh) (fun q => absurd c7 q))))))) (hk0 _ rfl)
          · rw [if_neg c7] at h
            have h := Option.some.inj h
            subst r
            exact ax_end 11 (And.intro c4 (And.intro c5 (Exists.intro (some (.int v75), s76) (And.intro (e_M_smallestOf (d + 48) hz6) (And.intro (fun q => absurd q c7) (fun _ => (And.intro (Or.inl rfl) (hkr _ rfl))))))))
theorem w_L_law_j699 (d : Nat) (xL : Nat) (xs : Nat → Int32) {o : ax_O} (x3 : Int32) (s : ax_S) (r : (ax_S) ⊕ (Int32 × ax_S)) (h : L_law_j699 xL xs x3 s = some r) (hk0 : ∀ (t0 : ax_S), r = (.inl t0) → ax_go true (some (xL, xs)) (ax_ev true (d + 53)) ax_m286 1074 [some (.ref 1000), some (.ref 0), some (.ref 63), some (.int x3)] [] t0 o) (hkr : ∀ q, r = (.inr q) → o = (some (.int q.1), q.2)) : ax_go true (some (xL, xs)) (ax_ev true (d + 53)) ax_m286 699 [some (.ref 1000), some (.ref 0), some (.ref 63), some (.int x3)] [] s o := by
  unfold L_law_j699 at h
  by_cases c1 : ((x3 + (1 : Int32)) < 0 ∨ xL ≤ ((x3 + (1 : Int32))).toNatClampNeg)
  · rw [if_pos c1] at h; cases h
  · rw [if_neg c1] at h
    cases hz2 : X_printIs (xs ((x3 + (1 : Int32))).toNatClampNeg) s with
    | none => rw [hz2] at h; cases h
    | some z2 =>
    rw [hz2] at h
    obtain ⟨v78, s79⟩ := z2
    dsimp only at h
    by_cases c3 : ((x3 + (1 : Int32)) < 0 ∨ xL ≤ ((x3 + (1 : Int32))).toNatClampNeg)
    · rw [if_pos c3] at h; cases h
    · rw [if_neg c3] at h
      cases hz4 : M_printIs (xs ((x3 + (1 : Int32))).toNatClampNeg) s79 with
      | none => rw [hz4] at h; cases h
      | some v80 =>
      rw [hz4] at h
      dsimp only at h
      by_cases c5 : v78 = v80
      · rw [if_pos c5] at h
        have h := Option.some.inj h
        subst r
        exact ax_cut (pc' := 1074) (la := [some (.ref 1000), some (.ref 0), some (.ref 63), some (.int x3)]) [some (.ref 1000), some (.ref 0), some (.ref 63), some (.int x3)] (st' := []) (σ' := s79) 15 (And.intro rfl (And.intro rfl (And.intro rfl (And.intro rfl (trivial))))) (fun _ hh => (And.intro c1 (Exists.intro (some (.int v78), s79) (And.intro (e_X_printIs (d + 47) hz2) (And.intro c3 (Exists.intro (some (.int v80), s79) (And.intro (e_M_printIs (d + 46) hz4) (And.intro (fun _ => hh) (fun q => absurd c5 q))))))))) (hk0 _ rfl)
      · rw [if_neg c5] at h
        refine ax_cut (pc' := 721) (la := [some (.ref 1000), some (.ref 0), some (.ref 63), some (.int x3)]) [none, none, none, none] (st' := [.int (0 : Int32)]) (σ' := s79) 16 (trivial) (fun _ hh => (And.intro c1 (Exists.intro (some (.int v78), s79) (And.intro (e_X_printIs (d + 47) hz2) (And.intro c3 (Exists.intro (some (.int v80), s79) (And.intro (e_M_printIs (d + 46) hz4) (And.intro (fun q => absurd q c5) (fun _ => hh))))))))) ?_
        have h := Option.some.inj h
        subst r
        exact ax_end 1 (And.intro (Or.inl rfl) (hkr _ rfl))
theorem w_L_law_j722 (d : Nat) (xL : Nat) (xs : Nat → Int32) {o : ax_O} (x3 : Int32) (s : ax_S) (r : (ax_S) ⊕ (Int32 × ax_S)) (h : L_law_j722 xL xs x3 s = some r) (hk0 : ∀ (t0 : ax_S), r = (.inl t0) → ax_go true (some (xL, xs)) (ax_ev true (d + 53)) ax_m286 1074 [some (.ref 1000), some (.ref 0), some (.ref 63), some (.int x3)] [] t0 o) (hkr : ∀ q, r = (.inr q) → o = (some (.int q.1), q.2)) : ax_go true (some (xL, xs)) (ax_ev true (d + 53)) ax_m286 722 [some (.ref 1000), some (.ref 0), some (.ref 63), some (.int x3)] [] s o := by
  unfold L_law_j722 at h
  by_cases c1 : ((x3 + (1 : Int32)) < 0 ∨ xL ≤ ((x3 + (1 : Int32))).toNatClampNeg)
  · rw [if_pos c1] at h; cases h
  · rw [if_neg c1] at h
    cases hz2 : X_family (xs ((x3 + (1 : Int32))).toNatClampNeg) s with
    | none => rw [hz2] at h; cases h
    | some z2 =>
    rw [hz2] at h
    obtain ⟨v82, s83⟩ := z2
    dsimp only at h
    by_cases c3 : ((x3 + (1 : Int32)) < 0 ∨ xL ≤ ((x3 + (1 : Int32))).toNatClampNeg)
    · rw [if_pos c3] at h; cases h
    · rw [if_neg c3] at h
      cases hz4 : M_family (xs ((x3 + (1 : Int32))).toNatClampNeg) s83 with
      | none => rw [hz4] at h; cases h
      | some v84 =>
      rw [hz4] at h
      dsimp only at h
      by_cases c5 : v82 = v84
      · rw [if_pos c5] at h
        have h := Option.some.inj h
        subst r
        exact ax_cut (pc' := 1074) (la := [some (.ref 1000), some (.ref 0), some (.ref 63), some (.int x3)]) [some (.ref 1000), some (.ref 0), some (.ref 63), some (.int x3)] (st' := []) (σ' := s83) 15 (And.intro rfl (And.intro rfl (And.intro rfl (And.intro rfl (trivial))))) (fun _ hh => (And.intro c1 (Exists.intro (some (.int v82), s83) (And.intro (e_X_family (d + 48) hz2) (And.intro c3 (Exists.intro (some (.int v84), s83) (And.intro (e_M_family (d + 48) hz4) (And.intro (fun _ => hh) (fun q => absurd c5 q))))))))) (hk0 _ rfl)
      · rw [if_neg c5] at h
        refine ax_cut (pc' := 744) (la := [some (.ref 1000), some (.ref 0), some (.ref 63), some (.int x3)]) [none, none, none, none] (st' := [.int (0 : Int32)]) (σ' := s83) 16 (trivial) (fun _ hh => (And.intro c1 (Exists.intro (some (.int v82), s83) (And.intro (e_X_family (d + 48) hz2) (And.intro c3 (Exists.intro (some (.int v84), s83) (And.intro (e_M_family (d + 48) hz4) (And.intro (fun q => absurd q c5) (fun _ => hh))))))))) ?_
        have h := Option.some.inj h
        subst r
        exact ax_end 1 (And.intro (Or.inl rfl) (hkr _ rfl))
theorem w_L_law_j745 (d : Nat) (xL : Nat) (xs : Nat → Int32) {o : ax_O} (x3 : Int32) (s : ax_S) (r : (ax_S) ⊕ (Int32 × ax_S)) (h : L_law_j745 xL xs x3 s = some r) (hk0 : ∀ (t0 : ax_S), r = (.inl t0) → ax_go true (some (xL, xs)) (ax_ev true (d + 53)) ax_m286 1074 [some (.ref 1000), some (.ref 0), some (.ref 63), some (.int x3)] [] t0 o) (hkr : ∀ q, r = (.inr q) → o = (some (.int q.1), q.2)) : ax_go true (some (xL, xs)) (ax_ev true (d + 53)) ax_m286 745 [some (.ref 1000), some (.ref 0), some (.ref 63), some (.int x3)] [] s o := by
  unfold L_law_j745 at h
  by_cases c1 : ((x3 + (1 : Int32)) < 0 ∨ xL ≤ ((x3 + (1 : Int32))).toNatClampNeg)
  · rw [if_pos c1] at h; cases h
  · rw [if_neg c1] at h
    by_cases c2 : ((x3 + (2 : Int32)) < 0 ∨ xL ≤ ((x3 + (2 : Int32))).toNatClampNeg)
    · rw [if_pos c2] at h; cases h
    · rw [if_neg c2] at h
      cases hz3 : X_album (xs ((x3 + (1 : Int32))).toNatClampNeg) (xs ((x3 + (2 : Int32))).toNatClampNeg) s with
      | none => rw [hz3] at h; cases h
      | some v86 =>
      rw [hz3] at h
      dsimp only at h
      refine ax_cut (pc' := 763) (la := [some (.ref 1000), some (.ref 0), some (.ref 63), some (.int x3)]) [some (.ref 1000), some (.ref 0), some (.ref 63), some (.int x3)] (st' := [.int (1 : Int32), .int x3, .ref 1000, .ref 63, .int v86]) (σ' := s) 16 (And.intro rfl (And.intro rfl (And.intro rfl (And.intro rfl (trivial))))) (fun _ hh => (And.intro c1 (And.intro c2 (Exists.intro (some (.int v86), s) (And.intro (e_X_album (d + 50) hz3) hh))))) ?_
      by_cases c4 : ((x3 + (1 : Int32)) < 0 ∨ xL ≤ ((x3 + (1 : Int32))).toNatClampNeg)
      · rw [if_pos c4] at h; cases h
      · rw [if_neg c4] at h
        by_cases c5 : ((x3 + (2 : Int32)) < 0 ∨ xL ≤ ((x3 + (2 : Int32))).toNatClampNeg)
        · rw [if_pos c5] at h; cases h
        · rw [if_neg c5] at h
          cases hz6 : M_album (xs ((x3 + (1 : Int32))).toNatClampNeg) (xs ((x3 + (2 : Int32))).toNatClampNeg) s with
          | none => rw [hz6] at h; cases h
          | some v87 =>
          rw [hz6] at h
          dsimp only at h
          by_cases c7 : v86 = v87
          · rw [if_pos c7] at h
            have h := Option.some.inj h
            subst r
            exact ax_cut (pc' := 1074) (la := [some (.ref 1000), some (.ref 0), some (.ref 63), some (.int x3)]) [some (.ref 1000), some (.ref 0), some (.ref 63), some (.int x3)] (st' := []) (σ' := s) 9 (And.intro rfl (And.intro rfl (And.intro rfl (And.intro rfl (trivial))))) (fun _ hh => (And.intro c4 (And.intro c5 (Exists.intro (some (.int v87), s) (And.intro (e_M_album (d + 51) hz6) (And.intro (fun _ => hh) (fun q => absurd c7 q))))))) (hk0 _ rfl)
          · rw [if_neg c7] at h
            have h := Option.some.inj h
            subst r
            exact ax_end 11 (And.intro c4 (And.intro c5 (Exists.intro (some (.int v87), s) (And.intro (e_M_album (d + 51) hz6) (And.intro (fun q => absurd q c7) (fun _ => (And.intro (Or.inl rfl) (hkr _ rfl))))))))
theorem w_L_law_j778 (d : Nat) (xL : Nat) (xs : Nat → Int32) {o : ax_O} (x3 : Int32) (s : ax_S) (r : (ax_S) ⊕ (Int32 × ax_S)) (h : L_law_j778 xL xs x3 s = some r) (hk0 : ∀ (t0 : ax_S), r = (.inl t0) → ax_go true (some (xL, xs)) (ax_ev true (d + 53)) ax_m286 1074 [some (.ref 1000), some (.ref 0), some (.ref 63), some (.int x3)] [] t0 o) (hkr : ∀ q, r = (.inr q) → o = (some (.int q.1), q.2)) : ax_go true (some (xL, xs)) (ax_ev true (d + 53)) ax_m286 778 [some (.ref 1000), some (.ref 0), some (.ref 63), some (.int x3)] [] s o := by
  unfold L_law_j778 at h
  by_cases c1 : ((x3 + (1 : Int32)) < 0 ∨ xL ≤ ((x3 + (1 : Int32))).toNatClampNeg)
  · rw [if_pos c1] at h; cases h
  · rw [if_neg c1] at h
    by_cases c2 : ((x3 + (2 : Int32)) < 0 ∨ xL ≤ ((x3 + (2 : Int32))).toNatClampNeg)
    · rw [if_pos c2] at h; cases h
    · rw [if_neg c2] at h
      cases hz3 : X_pages (xs ((x3 + (1 : Int32))).toNatClampNeg) (xs ((x3 + (2 : Int32))).toNatClampNeg) s with
      | none => rw [hz3] at h; cases h
      | some z3 =>
      rw [hz3] at h
      obtain ⟨v89, s90⟩ := z3
      dsimp only at h
      refine ax_cut (pc' := 796) (la := [some (.ref 1000), some (.ref 0), some (.ref 63), some (.int x3)]) [some (.ref 1000), some (.ref 0), some (.ref 63), some (.int x3)] (st' := [.int (1 : Int32), .int x3, .ref 1000, .ref 63, .int v89]) (σ' := s90) 16 (And.intro rfl (And.intro rfl (And.intro rfl (And.intro rfl (trivial))))) (fun _ hh => (And.intro c1 (And.intro c2 (Exists.intro (some (.int v89), s90) (And.intro (e_X_pages (d + 49) hz3) hh))))) ?_
      by_cases c4 : ((x3 + (1 : Int32)) < 0 ∨ xL ≤ ((x3 + (1 : Int32))).toNatClampNeg)
      · rw [if_pos c4] at h; cases h
      · rw [if_neg c4] at h
        by_cases c5 : ((x3 + (2 : Int32)) < 0 ∨ xL ≤ ((x3 + (2 : Int32))).toNatClampNeg)
        · rw [if_pos c5] at h; cases h
        · rw [if_neg c5] at h
          cases hz6 : M_pages (xs ((x3 + (1 : Int32))).toNatClampNeg) (xs ((x3 + (2 : Int32))).toNatClampNeg) s90 with
          | none => rw [hz6] at h; cases h
          | some z6 =>
          rw [hz6] at h
          obtain ⟨v91, s92⟩ := z6
          dsimp only at h
          by_cases c7 : v89 = v91
          · rw [if_pos c7] at h
            have h := Option.some.inj h
            subst r
            exact ax_cut (pc' := 1074) (la := [some (.ref 1000), some (.ref 0), some (.ref 63), some (.int x3)]) [some (.ref 1000), some (.ref 0), some (.ref 63), some (.int x3)] (st' := []) (σ' := s92) 9 (And.intro rfl (And.intro rfl (And.intro rfl (And.intro rfl (trivial))))) (fun _ hh => (And.intro c4 (And.intro c5 (Exists.intro (some (.int v91), s92) (And.intro (e_M_pages (d + 50) hz6) (And.intro (fun _ => hh) (fun q => absurd c7 q))))))) (hk0 _ rfl)
          · rw [if_neg c7] at h
            have h := Option.some.inj h
            subst r
            exact ax_end 11 (And.intro c4 (And.intro c5 (Exists.intro (some (.int v91), s92) (And.intro (e_M_pages (d + 50) hz6) (And.intro (fun q => absurd q c7) (fun _ => (And.intro (Or.inl rfl) (hkr _ rfl))))))))
theorem w_L_law_j811 (d : Nat) (xL : Nat) (xs : Nat → Int32) {o : ax_O} (x3 : Int32) (s : ax_S) (r : (ax_S) ⊕ (Int32 × ax_S)) (h : L_law_j811 xL xs x3 s = some r) (hk0 : ∀ (t0 : ax_S), r = (.inl t0) → ax_go true (some (xL, xs)) (ax_ev true (d + 53)) ax_m286 1074 [some (.ref 1000), some (.ref 0), some (.ref 63), some (.int x3)] [] t0 o) (hkr : ∀ q, r = (.inr q) → o = (some (.int q.1), q.2)) : ax_go true (some (xL, xs)) (ax_ev true (d + 53)) ax_m286 811 [some (.ref 1000), some (.ref 0), some (.ref 63), some (.int x3)] [] s o := by
  unfold L_law_j811 at h
  by_cases c1 : ((x3 + (1 : Int32)) < 0 ∨ xL ≤ ((x3 + (1 : Int32))).toNatClampNeg)
  · rw [if_pos c1] at h; cases h
  · rw [if_neg c1] at h
    by_cases c2 : ((x3 + (2 : Int32)) < 0 ∨ xL ≤ ((x3 + (2 : Int32))).toNatClampNeg)
    · rw [if_pos c2] at h; cases h
    · rw [if_neg c2] at h
      by_cases c3 : ((x3 + (3 : Int32)) < 0 ∨ xL ≤ ((x3 + (3 : Int32))).toNatClampNeg)
      · rw [if_pos c3] at h; cases h
      · rw [if_neg c3] at h
        refine ax_cut (pc' := 827) (la := [some (.ref 1000), some (.ref 0), some (.ref 63), some (.int x3)]) [some (.ref 1000), some (.ref 0), some (.ref 63), some (.int x3)] (st' := [.int (xs ((x3 + (3 : Int32))).toNatClampNeg), .int (xs ((x3 + (2 : Int32))).toNatClampNeg), .int (xs ((x3 + (1 : Int32))).toNatClampNeg), .ref 0]) (σ' := s) 16 (And.intro rfl (And.intro rfl (And.intro rfl (And.intro rfl (trivial))))) (fun _ hh => (And.intro c1 (And.intro c2 (And.intro c3 hh)))) ?_
        cases hz4 : X_offcuts (xs ((x3 + (1 : Int32))).toNatClampNeg) (xs ((x3 + (2 : Int32))).toNatClampNeg) (xs ((x3 + (3 : Int32))).toNatClampNeg) s with
        | none => rw [hz4] at h; cases h
        | some z4 =>
        rw [hz4] at h
        obtain ⟨v94, s95⟩ := z4
        dsimp only at h
        by_cases c5 : ((x3 + (1 : Int32)) < 0 ∨ xL ≤ ((x3 + (1 : Int32))).toNatClampNeg)
        · rw [if_pos c5] at h; cases h
        · rw [if_neg c5] at h
          by_cases c6 : ((x3 + (2 : Int32)) < 0 ∨ xL ≤ ((x3 + (2 : Int32))).toNatClampNeg)
          · rw [if_pos c6] at h; cases h
          · rw [if_neg c6] at h
            refine ax_cut (pc' := 845) (la := [some (.ref 1000), some (.ref 0), some (.ref 63), some (.int x3)]) [some (.ref 1000), some (.ref 0), some (.ref 63), some (.int x3)] (st' := [.int (x3 + (3 : Int32)), .ref 1000, .int (xs ((x3 + (2 : Int32))).toNatClampNeg), .int (xs ((x3 + (1 : Int32))).toNatClampNeg), .ref 63, .int v94]) (σ' := s95) 16 (And.intro rfl (And.intro rfl (And.intro rfl (And.intro rfl (trivial))))) (fun _ hh => (Exists.intro (some (.int v94), s95) (And.intro (e_X_offcuts (d + 49) hz4) (And.intro c5 (And.intro c6 hh))))) ?_
            by_cases c7 : ((x3 + (3 : Int32)) < 0 ∨ xL ≤ ((x3 + (3 : Int32))).toNatClampNeg)
            · rw [if_pos c7] at h; cases h
            · rw [if_neg c7] at h
              cases hz8 : M_offcuts (xs ((x3 + (1 : Int32))).toNatClampNeg) (xs ((x3 + (2 : Int32))).toNatClampNeg) (xs ((x3 + (3 : Int32))).toNatClampNeg) s95 with
              | none => rw [hz8] at h; cases h
              | some z8 =>
              rw [hz8] at h
              obtain ⟨v96, s97⟩ := z8
              dsimp only at h
              by_cases c9 : v94 = v96
              · rw [if_pos c9] at h
                have h := Option.some.inj h
                subst r
                exact ax_cut (pc' := 1074) (la := [some (.ref 1000), some (.ref 0), some (.ref 63), some (.int x3)]) [some (.ref 1000), some (.ref 0), some (.ref 63), some (.int x3)] (st' := []) (σ' := s97) 3 (And.intro rfl (And.intro rfl (And.intro rfl (And.intro rfl (trivial))))) (fun _ hh => (And.intro c7 (Exists.intro (some (.int v96), s97) (And.intro (e_M_offcuts (d + 51) hz8) (And.intro (fun _ => hh) (fun q => absurd c9 q)))))) (hk0 _ rfl)
              · rw [if_neg c9] at h
                have h := Option.some.inj h
                subst r
                exact ax_end 5 (And.intro c7 (Exists.intro (some (.int v96), s97) (And.intro (e_M_offcuts (d + 51) hz8) (And.intro (fun q => absurd q c9) (fun _ => (And.intro (Or.inl rfl) (hkr _ rfl)))))))
theorem w_L_law_j854 (d : Nat) (xL : Nat) (xs : Nat → Int32) {o : ax_O} (x3 : Int32) (s : ax_S) (r : (ax_S) ⊕ (Int32 × ax_S)) (h : L_law_j854 xL xs x3 s = some r) (hk0 : ∀ (t0 : ax_S), r = (.inl t0) → ax_go true (some (xL, xs)) (ax_ev true (d + 53)) ax_m286 1074 [some (.ref 1000), some (.ref 0), some (.ref 63), some (.int x3)] [] t0 o) (hkr : ∀ q, r = (.inr q) → o = (some (.int q.1), q.2)) : ax_go true (some (xL, xs)) (ax_ev true (d + 53)) ax_m286 854 [some (.ref 1000), some (.ref 0), some (.ref 63), some (.int x3)] [] s o := by
  unfold L_law_j854 at h
  by_cases c1 : ((x3 + (1 : Int32)) < 0 ∨ xL ≤ ((x3 + (1 : Int32))).toNatClampNeg)
  · rw [if_pos c1] at h; cases h
  · rw [if_neg c1] at h
    cases hz2 : X_fold (xs ((x3 + (1 : Int32))).toNatClampNeg) s with
    | none => rw [hz2] at h; cases h
    | some v99 =>
    rw [hz2] at h
    dsimp only at h
    by_cases c3 : ((x3 + (1 : Int32)) < 0 ∨ xL ≤ ((x3 + (1 : Int32))).toNatClampNeg)
    · rw [if_pos c3] at h; cases h
    · rw [if_neg c3] at h
      cases hz4 : M_fold (xs ((x3 + (1 : Int32))).toNatClampNeg) s with
      | none => rw [hz4] at h; cases h
      | some v100 =>
      rw [hz4] at h
      dsimp only at h
      by_cases c5 : v99 = v100
      · rw [if_pos c5] at h
        have h := Option.some.inj h
        subst r
        exact ax_cut (pc' := 1074) (la := [some (.ref 1000), some (.ref 0), some (.ref 63), some (.int x3)]) [some (.ref 1000), some (.ref 0), some (.ref 63), some (.int x3)] (st' := []) (σ' := s) 15 (And.intro rfl (And.intro rfl (And.intro rfl (And.intro rfl (trivial))))) (fun _ hh => (And.intro c1 (Exists.intro (some (.int v99), s) (And.intro (e_X_fold (d + 51) hz2) (And.intro c3 (Exists.intro (some (.int v100), s) (And.intro (e_M_fold (d + 51) hz4) (And.intro (fun _ => hh) (fun q => absurd c5 q))))))))) (hk0 _ rfl)
      · rw [if_neg c5] at h
        refine ax_cut (pc' := 876) (la := [some (.ref 1000), some (.ref 0), some (.ref 63), some (.int x3)]) [none, none, none, none] (st' := [.int (0 : Int32)]) (σ' := s) 16 (trivial) (fun _ hh => (And.intro c1 (Exists.intro (some (.int v99), s) (And.intro (e_X_fold (d + 51) hz2) (And.intro c3 (Exists.intro (some (.int v100), s) (And.intro (e_M_fold (d + 51) hz4) (And.intro (fun q => absurd q c5) (fun _ => hh))))))))) ?_
        have h := Option.some.inj h
        subst r
        exact ax_end 1 (And.intro (Or.inl rfl) (hkr _ rfl))
theorem w_L_law_j877 (d : Nat) (xL : Nat) (xs : Nat → Int32) {o : ax_O} (x3 : Int32) (s : ax_S) (r : (ax_S) ⊕ (Int32 × ax_S)) (h : L_law_j877 xL xs x3 s = some r) (hk0 : ∀ (t0 : ax_S), r = (.inl t0) → ax_go true (some (xL, xs)) (ax_ev true (d + 53)) ax_m286 1074 [some (.ref 1000), some (.ref 0), some (.ref 63), some (.int x3)] [] t0 o) (hkr : ∀ q, r = (.inr q) → o = (some (.int q.1), q.2)) : ax_go true (some (xL, xs)) (ax_ev true (d + 53)) ax_m286 877 [some (.ref 1000), some (.ref 0), some (.ref 63), some (.int x3)] [] s o := by
  unfold L_law_j877 at h
  by_cases c1 : ((x3 + (1 : Int32)) < 0 ∨ xL ≤ ((x3 + (1 : Int32))).toNatClampNeg)
  · rw [if_pos c1] at h; cases h
  · rw [if_neg c1] at h
    by_cases c2 : ((x3 + (2 : Int32)) < 0 ∨ xL ≤ ((x3 + (2 : Int32))).toNatClampNeg)
    · rw [if_pos c2] at h; cases h
    · rw [if_neg c2] at h
      by_cases c3 : ((x3 + (3 : Int32)) < 0 ∨ xL ≤ ((x3 + (3 : Int32))).toNatClampNeg)
      · rw [if_pos c3] at h; cases h
      · rw [if_neg c3] at h
        refine ax_cut (pc' := 893) (la := [some (.ref 1000), some (.ref 0), some (.ref 63), some (.int x3)]) [some (.ref 1000), some (.ref 0), some (.ref 63), some (.int x3)] (st' := [.int (xs ((x3 + (3 : Int32))).toNatClampNeg), .int (xs ((x3 + (2 : Int32))).toNatClampNeg), .int (xs ((x3 + (1 : Int32))).toNatClampNeg), .ref 0]) (σ' := s) 16 (And.intro rfl (And.intro rfl (And.intro rfl (And.intro rfl (trivial))))) (fun _ hh => (And.intro c1 (And.intro c2 (And.intro c3 hh)))) ?_
        by_cases c4 : ((x3 + (4 : Int32)) < 0 ∨ xL ≤ ((x3 + (4 : Int32))).toNatClampNeg)
        · rw [if_pos c4] at h; cases h
        · rw [if_neg c4] at h
          cases hz5 : X_told (xs ((x3 + (1 : Int32))).toNatClampNeg) (xs ((x3 + (2 : Int32))).toNatClampNeg) (xs ((x3 + (3 : Int32))).toNatClampNeg) (xs ((x3 + (4 : Int32))).toNatClampNeg) s with
          | none => rw [hz5] at h; cases h
          | some z5 =>
          rw [hz5] at h
          obtain ⟨v102, s103⟩ := z5
          dsimp only at h
          by_cases c6 : ((x3 + (1 : Int32)) < 0 ∨ xL ≤ ((x3 + (1 : Int32))).toNatClampNeg)
          · rw [if_pos c6] at h; cases h
          · rw [if_neg c6] at h
            refine ax_cut (pc' := 911) (la := [some (.ref 1000), some (.ref 0), some (.ref 63), some (.int x3)]) [some (.ref 1000), some (.ref 0), some (.ref 63), some (.int x3)] (st' := [.int (x3 + (2 : Int32)), .ref 1000, .int (xs ((x3 + (1 : Int32))).toNatClampNeg), .ref 63, .int v102]) (σ' := s103) 16 (And.intro rfl (And.intro rfl (And.intro rfl (And.intro rfl (trivial))))) (fun _ hh => (And.intro c4 (Exists.intro (some (.int v102), s103) (And.intro (e_X_told (d + 48) hz5) (And.intro c6 hh))))) ?_
            by_cases c7 : ((x3 + (2 : Int32)) < 0 ∨ xL ≤ ((x3 + (2 : Int32))).toNatClampNeg)
            · rw [if_pos c7] at h; cases h
            · rw [if_neg c7] at h
              by_cases c8 : ((x3 + (3 : Int32)) < 0 ∨ xL ≤ ((x3 + (3 : Int32))).toNatClampNeg)
              · rw [if_pos c8] at h; cases h
              · rw [if_neg c8] at h
                by_cases c9 : ((x3 + (4 : Int32)) < 0 ∨ xL ≤ ((x3 + (4 : Int32))).toNatClampNeg)
                · rw [if_pos c9] at h; cases h
                · rw [if_neg c9] at h
                  cases hz10 : M_told (xs ((x3 + (1 : Int32))).toNatClampNeg) (xs ((x3 + (2 : Int32))).toNatClampNeg) (xs ((x3 + (3 : Int32))).toNatClampNeg) (xs ((x3 + (4 : Int32))).toNatClampNeg) s103 with
                  | none => rw [hz10] at h; cases h
                  | some z10 =>
                  rw [hz10] at h
                  obtain ⟨v104, s105⟩ := z10
                  dsimp only at h
                  by_cases c11 : v102 = v104
                  · rw [if_pos c11] at h
                    have h := Option.some.inj h
                    subst r
                    exact ax_cut (pc' := 1074) (la := [some (.ref 1000), some (.ref 0), some (.ref 63), some (.int x3)]) [some (.ref 1000), some (.ref 0), some (.ref 63), some (.int x3)] (st' := []) (σ' := s105) 13 (And.intro rfl (And.intro rfl (And.intro rfl (And.intro rfl (trivial))))) (fun _ hh => (And.intro c7 (And.intro c8 (And.intro c9 (Exists.intro (some (.int v104), s105) (And.intro (e_M_told (d + 50) hz10) (And.intro (fun _ => hh) (fun q => absurd c11 q)))))))) (hk0 _ rfl)
                  · rw [if_neg c11] at h
                    have h := Option.some.inj h
                    subst r
                    exact ax_end 15 (And.intro c7 (And.intro c8 (And.intro c9 (Exists.intro (some (.int v104), s105) (And.intro (e_M_told (d + 50) hz10) (And.intro (fun q => absurd q c11) (fun _ => (And.intro (Or.inl rfl) (hkr _ rfl)))))))))
theorem w_L_law_j941 (d : Nat) (xL : Nat) (xs : Nat → Int32) {o : ax_O} (x3 : Int32) (y1 : Int32) (y2 : Int32) (s : ax_S) (r : Int32) (h : L_law_j941 xL xs x3 y1 y2 s = r) (hk0 : ∀ (t0 : Int32), r = t0 → ax_go true (some (xL, xs)) (ax_ev true (d + 53)) ax_m286 949 [some (.ref 1000), some (.ref 0), some (.ref 63), some (.int x3)] [.int t0, .int y1, .ref 0] s o) : ax_go true (some (xL, xs)) (ax_ev true (d + 53)) ax_m286 941 [some (.ref 1000), some (.ref 0), some (.ref 63), some (.int x3)] [.int y2, .int y1, .ref 0] s o := by
  unfold L_law_j941 at h
  by_cases c1 : y2 = 0
  · rw [if_pos c1] at h
    have h := h
    subst r
    exact ax_cut (pc' := 949) (la := [some (.ref 1000), some (.ref 0), some (.ref 63), some (.int x3)]) [some (.ref 1000), some (.ref 0), some (.ref 63), some (.int x3)] (st' := [.int (0 : Int32), .int y1, .ref 0]) (σ' := s) 2 (And.intro rfl (And.intro rfl (And.intro rfl (And.intro rfl (trivial))))) (fun _ hh => (And.intro (fun _ => hh) (fun q => absurd c1 q))) (hk0 _ rfl)
  · rw [if_neg c1] at h
    have h := h
    subst r
    exact ax_cut (pc' := 949) (la := [some (.ref 1000), some (.ref 0), some (.ref 63), some (.int x3)]) [some (.ref 1000), some (.ref 0), some (.ref 63), some (.int x3)] (st' := [.int (1 : Int32), .int y1, .ref 0]) (σ' := s) 3 (And.intro rfl (And.intro rfl (And.intro rfl (And.intro rfl (trivial))))) (fun _ hh => (And.intro (fun q => absurd q c1) (fun _ => hh))) (hk0 _ rfl)
theorem w_L_law_j963 (d : Nat) (xL : Nat) (xs : Nat → Int32) {o : ax_O} (x3 : Int32) (y0 : Int32) (y2 : Int32) (y3 : Int32) (s : ax_S) (r : Int32) (h : L_law_j963 xL xs x3 y0 y2 y3 s = r) (hk0 : ∀ (t0 : Int32), r = t0 → ax_go true (some (xL, xs)) (ax_ev true (d + 53)) ax_m286 971 [some (.ref 1000), some (.ref 0), some (.ref 63), some (.int x3)] [.int t0, .int y2, .ref 63, .int y0] s o) : ax_go true (some (xL, xs)) (ax_ev true (d + 53)) ax_m286 963 [some (.ref 1000), some (.ref 0), some (.ref 63), some (.int x3)] [.int y3, .int y2, .ref 63, .int y0] s o := by
  unfold L_law_j963 at h
  by_cases c1 : y3 = 0
  · rw [if_pos c1] at h
    have h := h
    subst r
    exact ax_cut (pc' := 971) (la := [some (.ref 1000), some (.ref 0), some (.ref 63), some (.int x3)]) [some (.ref 1000), some (.ref 0), some (.ref 63), some (.int x3)] (st' := [.int (0 : Int32), .int y2, .ref 63, .int y0]) (σ' := s) 2 (And.intro rfl (And.intro rfl (And.intro rfl (And.intro rfl (trivial))))) (fun _ hh => (And.intro (fun _ => hh) (fun q => absurd c1 q))) (hk0 _ rfl)
  · rw [if_neg c1] at h
    have h := h
    subst r
    exact ax_cut (pc' := 971) (la := [some (.ref 1000), some (.ref 0), some (.ref 63), some (.int x3)]) [some (.ref 1000), some (.ref 0), some (.ref 63), some (.int x3)] (st' := [.int (1 : Int32), .int y2, .ref 63, .int y0]) (σ' := s) 3 (And.intro rfl (And.intro rfl (And.intro rfl (And.intro rfl (trivial))))) (fun _ hh => (And.intro (fun q => absurd q c1) (fun _ => hh))) (hk0 _ rfl)
theorem w_L_law_j930 (d : Nat) (xL : Nat) (xs : Nat → Int32) {o : ax_O} (x3 : Int32) (s : ax_S) (r : (ax_S) ⊕ (Int32 × ax_S)) (h : L_law_j930 xL xs x3 s = some r) (hk0 : ∀ (t0 : ax_S), r = (.inl t0) → ax_go true (some (xL, xs)) (ax_ev true (d + 53)) ax_m286 1074 [some (.ref 1000), some (.ref 0), some (.ref 63), some (.int x3)] [] t0 o) (hkr : ∀ q, r = (.inr q) → o = (some (.int q.1), q.2)) : ax_go true (some (xL, xs)) (ax_ev true (d + 53)) ax_m286 930 [some (.ref 1000), some (.ref 0), some (.ref 63), some (.int x3)] [] s o := by
  unfold L_law_j930 at h
  by_cases c1 : ((x3 + (1 : Int32)) < 0 ∨ xL ≤ ((x3 + (1 : Int32))).toNatClampNeg)
  · rw [if_pos c1] at h; cases h
  · rw [if_neg c1] at h
    by_cases c2 : ((x3 + (2 : Int32)) < 0 ∨ xL ≤ ((x3 + (2 : Int32))).toNatClampNeg)
    · rw [if_pos c2] at h; cases h
    · rw [if_neg c2] at h
      refine ax_cut (pc' := 941) (la := [some (.ref 1000), some (.ref 0), some (.ref 63), some (.int x3)]) [some (.ref 1000), some (.ref 0), some (.ref 63), some (.int x3)] (st' := [.int (xs ((x3 + (2 : Int32))).toNatClampNeg), .int (xs ((x3 + (1 : Int32))).toNatClampNeg), .ref 0]) (σ' := s) 11 (And.intro rfl (And.intro rfl (And.intro rfl (And.intro rfl (trivial))))) (fun _ hh => (And.intro c1 (And.intro c2 hh))) (w_L_law_j941 d xL xs x3 (xs ((x3 + (1 : Int32))).toNatClampNeg) (xs ((x3 + (2 : Int32))).toNatClampNeg) s _ rfl (fun v107 hq => ?_))
      obtain rfl : v107 = (L_law_j941 xL xs x3 (xs ((x3 + (1 : Int32))).toNatClampNeg) (xs ((x3 + (2 : Int32))).toNatClampNeg) s) := hq.symm
      cases hz3 : X_frames (xs ((x3 + (1 : Int32))).toNatClampNeg) (L_law_j941 xL xs x3 (xs ((x3 + (1 : Int32))).toNatClampNeg) (xs ((x3 + (2 : Int32))).toNatClampNeg) s) s with
      | none => rw [hz3] at h; cases h
      | some z3 =>
      rw [hz3] at h
      obtain ⟨v108, s109⟩ := z3
      dsimp only at h
      by_cases c4 : ((x3 + (1 : Int32)) < 0 ∨ xL ≤ ((x3 + (1 : Int32))).toNatClampNeg)
      · rw [if_pos c4] at h; cases h
      · rw [if_neg c4] at h
        by_cases c5 : ((x3 + (2 : Int32)) < 0 ∨ xL ≤ ((x3 + (2 : Int32))).toNatClampNeg)
        · rw [if_pos c5] at h; cases h
        · rw [if_neg c5] at h
          refine ax_cut (pc' := 963) (la := [some (.ref 1000), some (.ref 0), some (.ref 63), some (.int x3)]) [some (.ref 1000), some (.ref 0), some (.ref 63), some (.int x3)] (st' := [.int (xs ((x3 + (2 : Int32))).toNatClampNeg), .int (xs ((x3 + (1 : Int32))).toNatClampNeg), .ref 63, .int v108]) (σ' := s109) 12 (And.intro rfl (And.intro rfl (And.intro rfl (And.intro rfl (trivial))))) (fun _ hh => (Exists.intro (some (.int v108), s109) (And.intro (e_X_frames (d + 49) hz3) (And.intro c4 (And.intro c5 hh))))) (w_L_law_j963 d xL xs x3 v108 (xs ((x3 + (1 : Int32))).toNatClampNeg) (xs ((x3 + (2 : Int32))).toNatClampNeg) s109 _ rfl (fun v110 hq => ?_))
          obtain rfl : v110 = (L_law_j963 xL xs x3 v108 (xs ((x3 + (1 : Int32))).toNatClampNeg) (xs ((x3 + (2 : Int32))).toNatClampNeg) s109) := hq.symm
          cases hz6 : M_frames (xs ((x3 + (1 : Int32))).toNatClampNeg) (L_law_j963 xL xs x3 v108 (xs ((x3 + (1 : Int32))).toNatClampNeg) (xs ((x3 + (2 : Int32))).toNatClampNeg) s109) s109 with
          | none => rw [hz6] at h; cases h
          | some z6 =>
          rw [hz6] at h
          obtain ⟨v111, s112⟩ := z6
          dsimp only at h
          by_cases c7 : v108 = v111
          · rw [if_pos c7] at h
            have h := Option.some.inj h
            subst r
            exact ax_cut (pc' := 1074) (la := [some (.ref 1000), some (.ref 0), some (.ref 63), some (.int x3)]) [some (.ref 1000), some (.ref 0), some (.ref 63), some (.int x3)] (st' := []) (σ' := s112) 2 (And.intro rfl (And.intro rfl (And.intro rfl (And.intro rfl (trivial))))) (fun _ hh => (Exists.intro (some (.int v111), s112) (And.intro (e_M_frames (d + 50) hz6) (And.intro (fun _ => hh) (fun q => absurd c7 q))))) (hk0 _ rfl)
          · rw [if_neg c7] at h
            have h := Option.some.inj h
            subst r
            exact ax_end 4 (Exists.intro (some (.int v111), s112) (And.intro (e_M_frames (d + 50) hz6) (And.intro (fun q => absurd q c7) (fun _ => (And.intro (Or.inl rfl) (hkr _ rfl))))))
theorem w_L_law_j979 (d : Nat) (xL : Nat) (xs : Nat → Int32) {o : ax_O} (x3 : Int32) (s : ax_S) (r : (ax_S) ⊕ (Int32 × ax_S)) (h : L_law_j979 xL xs x3 s = some r) (hk0 : ∀ (t0 : ax_S), r = (.inl t0) → ax_go true (some (xL, xs)) (ax_ev true (d + 53)) ax_m286 1074 [some (.ref 1000), some (.ref 0), some (.ref 63), some (.int x3)] [] t0 o) (hkr : ∀ q, r = (.inr q) → o = (some (.int q.1), q.2)) : ax_go true (some (xL, xs)) (ax_ev true (d + 53)) ax_m286 979 [some (.ref 1000), some (.ref 0), some (.ref 63), some (.int x3)] [] s o := by
  unfold L_law_j979 at h
  by_cases c1 : ((x3 + (1 : Int32)) < 0 ∨ xL ≤ ((x3 + (1 : Int32))).toNatClampNeg)
  · rw [if_pos c1] at h; cases h
  · rw [if_neg c1] at h
    by_cases c2 : ((x3 + (1 : Int32)) < 0 ∨ xL ≤ ((x3 + (1 : Int32))).toNatClampNeg)
    · rw [if_pos c2] at h; cases h
    · rw [if_neg c2] at h
      by_cases c3 : (X_seed (xs ((x3 + (1 : Int32))).toNatClampNeg) s).1 = (M_seed (xs ((x3 + (1 : Int32))).toNatClampNeg) (X_seed (xs ((x3 + (1 : Int32))).toNatClampNeg) s).2).1
      · rw [if_pos c3] at h
        have h := Option.some.inj h
        subst r
        exact ax_cut (pc' := 1074) (la := [some (.ref 1000), some (.ref 0), some (.ref 63), some (.int x3)]) [some (.ref 1000), some (.ref 0), some (.ref 63), some (.int x3)] (st' := []) (σ' := (M_seed (xs ((x3 + (1 : Int32))).toNatClampNeg) (X_seed (xs ((x3 + (1 : Int32))).toNatClampNeg) s).2).2) 15 (And.intro rfl (And.intro rfl (And.intro rfl (And.intro rfl (trivial))))) (fun _ hh => (And.intro c1 (Exists.intro (some (.int (X_seed (xs ((x3 + (1 : Int32))).toNatClampNeg) s).1), (X_seed (xs ((x3 + (1 : Int32))).toNatClampNeg) s).2) (And.intro (e_X_seed (d + 51) (xs ((x3 + (1 : Int32))).toNatClampNeg) s) (And.intro c2 (Exists.intro (some (.int (M_seed (xs ((x3 + (1 : Int32))).toNatClampNeg) (X_seed (xs ((x3 + (1 : Int32))).toNatClampNeg) s).2).1), (M_seed (xs ((x3 + (1 : Int32))).toNatClampNeg) (X_seed (xs ((x3 + (1 : Int32))).toNatClampNeg) s).2).2) (And.intro (e_M_seed (d + 51) (xs ((x3 + (1 : Int32))).toNatClampNeg) (X_seed (xs ((x3 + (1 : Int32))).toNatClampNeg) s).2) (And.intro (fun _ => hh) (fun q => absurd c3 q))))))))) (hk0 _ rfl)
      · rw [if_neg c3] at h
        refine ax_cut (pc' := 1001) (la := [some (.ref 1000), some (.ref 0), some (.ref 63), some (.int x3)]) [none, none, none, none] (st' := [.int (0 : Int32)]) (σ' := (M_seed (xs ((x3 + (1 : Int32))).toNatClampNeg) (X_seed (xs ((x3 + (1 : Int32))).toNatClampNeg) s).2).2) 16 (trivial) (fun _ hh => (And.intro c1 (Exists.intro (some (.int (X_seed (xs ((x3 + (1 : Int32))).toNatClampNeg) s).1), (X_seed (xs ((x3 + (1 : Int32))).toNatClampNeg) s).2) (And.intro (e_X_seed (d + 51) (xs ((x3 + (1 : Int32))).toNatClampNeg) s) (And.intro c2 (Exists.intro (some (.int (M_seed (xs ((x3 + (1 : Int32))).toNatClampNeg) (X_seed (xs ((x3 + (1 : Int32))).toNatClampNeg) s).2).1), (M_seed (xs ((x3 + (1 : Int32))).toNatClampNeg) (X_seed (xs ((x3 + (1 : Int32))).toNatClampNeg) s).2).2) (And.intro (e_M_seed (d + 51) (xs ((x3 + (1 : Int32))).toNatClampNeg) (X_seed (xs ((x3 + (1 : Int32))).toNatClampNeg) s).2) (And.intro (fun q => absurd q c3) (fun _ => hh))))))))) ?_
        have h := Option.some.inj h
        subst r
        exact ax_end 1 (And.intro (Or.inl rfl) (hkr _ rfl))
theorem w_L_law_j1002 (d : Nat) (xL : Nat) (xs : Nat → Int32) {o : ax_O} (x3 : Int32) (s : ax_S) (r : (ax_S) ⊕ (Int32 × ax_S)) (h : L_law_j1002 xL xs x3 s = some r) (hk0 : ∀ (t0 : ax_S), r = (.inl t0) → ax_go true (some (xL, xs)) (ax_ev true (d + 53)) ax_m286 1074 [some (.ref 1000), some (.ref 0), some (.ref 63), some (.int x3)] [] t0 o) (hkr : ∀ q, r = (.inr q) → o = (some (.int q.1), q.2)) : ax_go true (some (xL, xs)) (ax_ev true (d + 53)) ax_m286 1002 [some (.ref 1000), some (.ref 0), some (.ref 63), some (.int x3)] [] s o := by
  unfold L_law_j1002 at h
  cases hz1 : M_keep (X_keep s).2 with
  | none => rw [hz1] at h; cases h
  | some z1 =>
  rw [hz1] at h
  obtain ⟨v115, s116⟩ := z1
  dsimp only at h
  by_cases c2 : (X_keep s).1 = v115
  · rw [if_pos c2] at h
    have h := Option.some.inj h
    subst r
    exact ax_cut (pc' := 1074) (la := [some (.ref 1000), some (.ref 0), some (.ref 63), some (.int x3)]) [some (.ref 1000), some (.ref 0), some (.ref 63), some (.int x3)] (st' := []) (σ' := s116) 5 (And.intro rfl (And.intro rfl (And.intro rfl (And.intro rfl (trivial))))) (fun _ hh => (Exists.intro (some (.int (X_keep s).1), (X_keep s).2) (And.intro (e_X_keep (d + 50)  s) (Exists.intro (some (.int v115), s116) (And.intro (e_M_keep (d + 51) hz1) (And.intro (fun _ => hh) (fun q => absurd c2 q))))))) (hk0 _ rfl)
  · rw [if_neg c2] at h
    have h := Option.some.inj h
    subst r
    exact ax_end 7 (Exists.intro (some (.int (X_keep s).1), (X_keep s).2) (And.intro (e_X_keep (d + 50)  s) (Exists.intro (some (.int v115), s116) (And.intro (e_M_keep (d + 51) hz1) (And.intro (fun q => absurd q c2) (fun _ => (And.intro (Or.inl rfl) (hkr _ rfl))))))))
theorem w_L_law_j1015 (d : Nat) (xL : Nat) (xs : Nat → Int32) {o : ax_O} (x3 : Int32) (s : ax_S) (r : (ax_S) ⊕ (Int32 × ax_S)) (h : L_law_j1015 xL xs x3 s = some r) (hk0 : ∀ (t0 : ax_S), r = (.inl t0) → ax_go true (some (xL, xs)) (ax_ev true (d + 53)) ax_m286 1074 [some (.ref 1000), some (.ref 0), some (.ref 63), some (.int x3)] [] t0 o) (hkr : ∀ q, r = (.inr q) → o = (some (.int q.1), q.2)) : ax_go true (some (xL, xs)) (ax_ev true (d + 53)) ax_m286 1015 [some (.ref 1000), some (.ref 0), some (.ref 63), some (.int x3)] [] s o := by
  unfold L_law_j1015 at h
  cases hz1 : X_undo s with
  | none => rw [hz1] at h; cases h
  | some z1 =>
  rw [hz1] at h
  obtain ⟨v118, s119⟩ := z1
  dsimp only at h
  cases hz2 : M_undo s119 with
  | none => rw [hz2] at h; cases h
  | some z2 =>
  rw [hz2] at h
  obtain ⟨v120, s121⟩ := z2
  dsimp only at h
  by_cases c3 : v118 = v120
  · rw [if_pos c3] at h
    have h := Option.some.inj h
    subst r
    exact ax_cut (pc' := 1074) (la := [some (.ref 1000), some (.ref 0), some (.ref 63), some (.int x3)]) [some (.ref 1000), some (.ref 0), some (.ref 63), some (.int x3)] (st' := []) (σ' := s121) 5 (And.intro rfl (And.intro rfl (And.intro rfl (And.intro rfl (trivial))))) (fun _ hh => (Exists.intro (some (.int v118), s119) (And.intro (e_X_undo (d + 50) hz1) (Exists.intro (some (.int v120), s121) (And.intro (e_M_undo (d + 51) hz2) (And.intro (fun _ => hh) (fun q => absurd c3 q))))))) (hk0 _ rfl)
  · rw [if_neg c3] at h
    have h := Option.some.inj h
    subst r
    exact ax_end 7 (Exists.intro (some (.int v118), s119) (And.intro (e_X_undo (d + 50) hz1) (Exists.intro (some (.int v120), s121) (And.intro (e_M_undo (d + 51) hz2) (And.intro (fun q => absurd q c3) (fun _ => (And.intro (Or.inl rfl) (hkr _ rfl))))))))
theorem w_L_law_j1028 (d : Nat) (xL : Nat) (xs : Nat → Int32) {o : ax_O} (x3 : Int32) (s : ax_S) (r : (ax_S) ⊕ (Int32 × ax_S)) (h : L_law_j1028 xL xs x3 s = some r) (hk0 : ∀ (t0 : ax_S), r = (.inl t0) → ax_go true (some (xL, xs)) (ax_ev true (d + 53)) ax_m286 1074 [some (.ref 1000), some (.ref 0), some (.ref 63), some (.int x3)] [] t0 o) (hkr : ∀ q, r = (.inr q) → o = (some (.int q.1), q.2)) : ax_go true (some (xL, xs)) (ax_ev true (d + 53)) ax_m286 1028 [some (.ref 1000), some (.ref 0), some (.ref 63), some (.int x3)] [] s o := by
  unfold L_law_j1028 at h
  by_cases c1 : ((x3 + (1 : Int32)) < 0 ∨ xL ≤ ((x3 + (1 : Int32))).toNatClampNeg)
  · rw [if_pos c1] at h; cases h
  · rw [if_neg c1] at h
    cases hz2 : X_check (xs ((x3 + (1 : Int32))).toNatClampNeg) s with
    | none => rw [hz2] at h; cases h
    | some z2 =>
    rw [hz2] at h
    obtain ⟨v123, s124⟩ := z2
    dsimp only at h
    by_cases c3 : ((x3 + (1 : Int32)) < 0 ∨ xL ≤ ((x3 + (1 : Int32))).toNatClampNeg)
    · rw [if_pos c3] at h; cases h
    · rw [if_neg c3] at h
      cases hz4 : M_check (xs ((x3 + (1 : Int32))).toNatClampNeg) s124 with
      | none => rw [hz4] at h; cases h
      | some z4 =>
      rw [hz4] at h
      obtain ⟨v125, s126⟩ := z4
      dsimp only at h
      by_cases c5 : v123 = v125
      · rw [if_pos c5] at h
        have h := Option.some.inj h
        subst r
        exact ax_cut (pc' := 1074) (la := [some (.ref 1000), some (.ref 0), some (.ref 63), some (.int x3)]) [some (.ref 1000), some (.ref 0), some (.ref 63), some (.int x3)] (st' := []) (σ' := s126) 15 (And.intro rfl (And.intro rfl (And.intro rfl (And.intro rfl (trivial))))) (fun _ hh => (And.intro c1 (Exists.intro (some (.int v123), s124) (And.intro (e_X_check (d + 49) hz2) (And.intro c3 (Exists.intro (some (.int v125), s126) (And.intro (e_M_check (d + 51) hz4) (And.intro (fun _ => hh) (fun q => absurd c5 q))))))))) (hk0 _ rfl)
      · rw [if_neg c5] at h
        refine ax_cut (pc' := 1050) (la := [some (.ref 1000), some (.ref 0), some (.ref 63), some (.int x3)]) [none, none, none, none] (st' := [.int (0 : Int32)]) (σ' := s126) 16 (trivial) (fun _ hh => (And.intro c1 (Exists.intro (some (.int v123), s124) (And.intro (e_X_check (d + 49) hz2) (And.intro c3 (Exists.intro (some (.int v125), s126) (And.intro (e_M_check (d + 51) hz4) (And.intro (fun q => absurd q c5) (fun _ => hh))))))))) ?_
        have h := Option.some.inj h
        subst r
        exact ax_end 1 (And.intro (Or.inl rfl) (hkr _ rfl))
theorem w_L_law_j1051 (d : Nat) (xL : Nat) (xs : Nat → Int32) {o : ax_O} (x3 : Int32) (s : ax_S) (r : (ax_S) ⊕ (Int32 × ax_S)) (h : L_law_j1051 xL xs x3 s = some r) (hk0 : ∀ (t0 : ax_S), r = (.inl t0) → ax_go true (some (xL, xs)) (ax_ev true (d + 53)) ax_m286 1074 [some (.ref 1000), some (.ref 0), some (.ref 63), some (.int x3)] [] t0 o) (hkr : ∀ q, r = (.inr q) → o = (some (.int q.1), q.2)) : ax_go true (some (xL, xs)) (ax_ev true (d + 53)) ax_m286 1051 [some (.ref 1000), some (.ref 0), some (.ref 63), some (.int x3)] [] s o := by
  unfold L_law_j1051 at h
  by_cases c1 : ((x3 + (1 : Int32)) < 0 ∨ xL ≤ ((x3 + (1 : Int32))).toNatClampNeg)
  · rw [if_pos c1] at h; cases h
  · rw [if_neg c1] at h
    cases hz2 : X_count (xs ((x3 + (1 : Int32))).toNatClampNeg) s with
    | none => rw [hz2] at h; cases h
    | some v128 =>
    rw [hz2] at h
    dsimp only at h
    by_cases c3 : ((x3 + (1 : Int32)) < 0 ∨ xL ≤ ((x3 + (1 : Int32))).toNatClampNeg)
    · rw [if_pos c3] at h; cases h
    · rw [if_neg c3] at h
      cases hz4 : M_count (xs ((x3 + (1 : Int32))).toNatClampNeg) s with
      | none => rw [hz4] at h; cases h
      | some v129 =>
      rw [hz4] at h
      dsimp only at h
      by_cases c5 : v128 = v129
      · rw [if_pos c5] at h
        have h := Option.some.inj h
        subst r
        exact ax_cut (pc' := 1074) (la := [some (.ref 1000), some (.ref 0), some (.ref 63), some (.int x3)]) [some (.ref 1000), some (.ref 0), some (.ref 63), some (.int x3)] (st' := []) (σ' := s) 15 (And.intro rfl (And.intro rfl (And.intro rfl (And.intro rfl (trivial))))) (fun _ hh => (And.intro c1 (Exists.intro (some (.int v128), s) (And.intro (e_X_count (d + 51) hz2) (And.intro c3 (Exists.intro (some (.int v129), s) (And.intro (e_M_count (d + 52) hz4) (And.intro (fun _ => hh) (fun q => absurd c5 q))))))))) (hk0 _ rfl)
      · rw [if_neg c5] at h
        refine ax_cut (pc' := 1073) (la := [some (.ref 1000), some (.ref 0), some (.ref 63), some (.int x3)]) [none, none, none, none] (st' := [.int (0 : Int32)]) (σ' := s) 16 (trivial) (fun _ hh => (And.intro c1 (Exists.intro (some (.int v128), s) (And.intro (e_X_count (d + 51) hz2) (And.intro c3 (Exists.intro (some (.int v129), s) (And.intro (e_M_count (d + 52) hz4) (And.intro (fun q => absurd q c5) (fun _ => hh))))))))) ?_
        have h := Option.some.inj h
        subst r
        exact ax_end 1 (And.intro (Or.inl rfl) (hkr _ rfl))
theorem w_L_law_j27 (d : Nat) (xL : Nat) (xs : Nat → Int32) {o : ax_O} (x3 : Int32) (s : ax_S) (r : (ax_S) ⊕ (Int32 × ax_S)) (h : L_law_j27 xL xs x3 s = some r) (hk0 : ∀ (t0 : ax_S), r = (.inl t0) → ax_go true (some (xL, xs)) (ax_ev true (d + 53)) ax_m286 1074 [some (.ref 1000), some (.ref 0), some (.ref 63), some (.int x3)] [] t0 o) (hkr : ∀ q, r = (.inr q) → o = (some (.int q.1), q.2)) : ax_go true (some (xL, xs)) (ax_ev true (d + 53)) ax_m286 27 [some (.ref 1000), some (.ref 0), some (.ref 63), some (.int x3)] [] s o := by
  unfold L_law_j27 at h
  by_cases c1 : (x3 < 0 ∨ xL ≤ (x3).toNatClampNeg)
  · rw [if_pos c1] at h; cases h
  · rw [if_neg c1] at h
    by_cases c2_0 : ((xs (x3).toNatClampNeg) &&& (31 : Int32)) = (0)
    · rw [if_pos c2_0] at h
      cases hz3 : L_law_j168 xL xs x3 s with
      | none => rw [hz3] at h; cases h
      | some z3 =>
      rw [hz3] at h
      refine ax_cut (pc' := 168) (la := [some (.ref 1000), some (.ref 0), some (.ref 63), some (.int x3)]) [some (.ref 1000), some (.ref 0), some (.ref 63), some (.int x3)] (st' := []) (σ' := s) 6 (And.intro rfl (And.intro rfl (And.intro rfl (And.intro rfl (trivial))))) (fun _ hh => (And.intro c1 (ax_tabT (lo := 0) (hg := 29) (j0 := 0) (congrArg Int32.toInt c2_0) ((congrArg (fun z : Int32 => ¬ (z.toInt < 0 ∨ 29 < z.toInt)) c2_0).mpr (by decide)) hh))) (w_L_law_j168 d xL xs x3 s _ hz3 ?_ ?_)
      · intro s5 hq
        subst z3
        dsimp only at h
        have h := Option.some.inj h
        subst r
        exact ax_cut (pc' := 1074) (la := [some (.ref 1000), some (.ref 0), some (.ref 63), some (.int x3)]) [some (.ref 1000), some (.ref 0), some (.ref 63), some (.int x3)] (st' := []) (σ' := s5) 0 (And.intro rfl (And.intro rfl (And.intro rfl (And.intro rfl (trivial))))) (fun _ hh => hh) (hk0 _ rfl)
      · intro q hq
        subst z3
        dsimp only at h
        cases h
        exact hkr _ rfl
    rw [if_neg c2_0] at h
    by_cases c2_1 : ((xs (x3).toNatClampNeg) &&& (31 : Int32)) = (1)
    · rw [if_pos c2_1] at h
      cases hz4 : L_law_j201 xL xs x3 s with
      | none => rw [hz4] at h; cases h
      | some z4 =>
      rw [hz4] at h
      refine ax_cut (pc' := 201) (la := [some (.ref 1000), some (.ref 0), some (.ref 63), some (.int x3)]) [some (.ref 1000), some (.ref 0), some (.ref 63), some (.int x3)] (st' := []) (σ' := s) 6 (And.intro rfl (And.intro rfl (And.intro rfl (And.intro rfl (trivial))))) (fun _ hh => (And.intro c1 (ax_tabT (lo := 0) (hg := 29) (j0 := 1) (congrArg Int32.toInt c2_1) ((congrArg (fun z : Int32 => ¬ (z.toInt < 0 ∨ 29 < z.toInt)) c2_1).mpr (by decide)) hh))) (w_L_law_j201 d xL xs x3 s _ hz4 ?_ ?_)
      · intro s6 hq
        subst z4
        dsimp only at h
        have h := Option.some.inj h
        subst r
        exact ax_cut (pc' := 1074) (la := [some (.ref 1000), some (.ref 0), some (.ref 63), some (.int x3)]) [some (.ref 1000), some (.ref 0), some (.ref 63), some (.int x3)] (st' := []) (σ' := s6) 0 (And.intro rfl (And.intro rfl (And.intro rfl (And.intro rfl (trivial))))) (fun _ hh => hh) (hk0 _ rfl)
      · intro q hq
        subst z4
        dsimp only at h
        cases h
        exact hkr _ rfl
    rw [if_neg c2_1] at h
    by_cases c2_2 : ((xs (x3).toNatClampNeg) &&& (31 : Int32)) = (2)
    · rw [if_pos c2_2] at h
      cases hz5 : L_law_j224 xL xs x3 s with
      | none => rw [hz5] at h; cases h
      | some z5 =>
      rw [hz5] at h
      refine ax_cut (pc' := 224) (la := [some (.ref 1000), some (.ref 0), some (.ref 63), some (.int x3)]) [some (.ref 1000), some (.ref 0), some (.ref 63), some (.int x3)] (st' := []) (σ' := s) 6 (And.intro rfl (And.intro rfl (And.intro rfl (And.intro rfl (trivial))))) (fun _ hh => (And.intro c1 (ax_tabT (lo := 0) (hg := 29) (j0 := 2) (congrArg Int32.toInt c2_2) ((congrArg (fun z : Int32 => ¬ (z.toInt < 0 ∨ 29 < z.toInt)) c2_2).mpr (by decide)) hh))) (w_L_law_j224 d xL xs x3 s _ hz5 ?_ ?_)
      · intro s11 hq
        subst z5
        dsimp only at h
        have h := Option.some.inj h
        subst r
        exact ax_cut (pc' := 1074) (la := [some (.ref 1000), some (.ref 0), some (.ref 63), some (.int x3)]) [some (.ref 1000), some (.ref 0), some (.ref 63), some (.int x3)] (st' := []) (σ' := s11) 0 (And.intro rfl (And.intro rfl (And.intro rfl (And.intro rfl (trivial))))) (fun _ hh => hh) (hk0 _ rfl)
      · intro q hq
        subst z5
        dsimp only at h
        cases h
        exact hkr _ rfl
    rw [if_neg c2_2] at h
    by_cases c2_3 : ((xs (x3).toNatClampNeg) &&& (31 : Int32)) = (3)
    · rw [if_pos c2_3] at h
      cases hz6 : L_law_j287 xL xs x3 s with
      | none => rw [hz6] at h; cases h
      | some z6 =>
      rw [hz6] at h
      refine ax_cut (pc' := 287) (la := [some (.ref 1000), some (.ref 0), some (.ref 63), some (.int x3)]) [some (.ref 1000), some (.ref 0), some (.ref 63), some (.int x3)] (st' := []) (σ' := s) 6 (And.intro rfl (And.intro rfl (And.intro rfl (And.intro rfl (trivial))))) (fun _ hh => (And.intro c1 (ax_tabT (lo := 0) (hg := 29) (j0 := 3) (congrArg Int32.toInt c2_3) ((congrArg (fun z : Int32 => ¬ (z.toInt < 0 ∨ 29 < z.toInt)) c2_3).mpr (by decide)) hh))) (w_L_law_j287 d xL xs x3 s _ hz6 ?_ ?_)
      · intro s16 hq
        subst z6
        dsimp only at h
        have h := Option.some.inj h
        subst r
        exact ax_cut (pc' := 1074) (la := [some (.ref 1000), some (.ref 0), some (.ref 63), some (.int x3)]) [some (.ref 1000), some (.ref 0), some (.ref 63), some (.int x3)] (st' := []) (σ' := s16) 0 (And.intro rfl (And.intro rfl (And.intro rfl (And.intro rfl (trivial))))) (fun _ hh => hh) (hk0 _ rfl)
      · intro q hq
        subst z6
        dsimp only at h
        cases h
        exact hkr _ rfl
    rw [if_neg c2_3] at h
    by_cases c2_4 : ((xs (x3).toNatClampNeg) &&& (31 : Int32)) = (4)
    · rw [if_pos c2_4] at h
      cases hz7 : L_law_j310 xL xs x3 s with
      | none => rw [hz7] at h; cases h
      | some z7 =>
      rw [hz7] at h
      refine ax_cut (pc' := 310) (la := [some (.ref 1000), some (.ref 0), some (.ref 63), some (.int x3)]) [some (.ref 1000), some (.ref 0), some (.ref 63), some (.int x3)] (st' := []) (σ' := s) 6 (And.intro rfl (And.intro rfl (And.intro rfl (And.intro rfl (trivial))))) (fun _ hh => (And.intro c1 (ax_tabT (lo := 0) (hg := 29) (j0 := 4) (congrArg Int32.toInt c2_4) ((congrArg (fun z : Int32 => ¬ (z.toInt < 0 ∨ 29 < z.toInt)) c2_4).mpr (by decide)) hh))) (w_L_law_j310 d xL xs x3 s _ hz7 ?_ ?_)
      · intro s21 hq
        subst z7
        dsimp only at h
        have h := Option.some.inj h
        subst r
        exact ax_cut (pc' := 1074) (la := [some (.ref 1000), some (.ref 0), some (.ref 63), some (.int x3)]) [some (.ref 1000), some (.ref 0), some (.ref 63), some (.int x3)] (st' := []) (σ' := s21) 0 (And.intro rfl (And.intro rfl (And.intro rfl (And.intro rfl (trivial))))) (fun _ hh => hh) (hk0 _ rfl)
      · intro q hq
        subst z7
        dsimp only at h
        cases h
        exact hkr _ rfl
    rw [if_neg c2_4] at h
    by_cases c2_5 : ((xs (x3).toNatClampNeg) &&& (31 : Int32)) = (5)
    · rw [if_pos c2_5] at h
      cases hz8 : L_law_j333 xL xs x3 s with
      | none => rw [hz8] at h; cases h
      | some z8 =>
      rw [hz8] at h
      refine ax_cut (pc' := 333) (la := [some (.ref 1000), some (.ref 0), some (.ref 63), some (.int x3)]) [some (.ref 1000), some (.ref 0), some (.ref 63), some (.int x3)] (st' := []) (σ' := s) 6 (And.intro rfl (And.intro rfl (And.intro rfl (And.intro rfl (trivial))))) (fun _ hh => (And.intro c1 (ax_tabT (lo := 0) (hg := 29) (j0 := 5) (congrArg Int32.toInt c2_5) ((congrArg (fun z : Int32 => ¬ (z.toInt < 0 ∨ 29 < z.toInt)) c2_5).mpr (by decide)) hh))) (w_L_law_j333 d xL xs x3 s _ hz8 ?_ ?_)
      · intro s26 hq
        subst z8
        dsimp only at h
        have h := Option.some.inj h
        subst r
        exact ax_cut (pc' := 1074) (la := [some (.ref 1000), some (.ref 0), some (.ref 63), some (.int x3)]) [some (.ref 1000), some (.ref 0), some (.ref 63), some (.int x3)] (st' := []) (σ' := s26) 0 (And.intro rfl (And.intro rfl (And.intro rfl (And.intro rfl (trivial))))) (fun _ hh => hh) (hk0 _ rfl)
      · intro q hq
        subst z8
        dsimp only at h
        cases h
        exact hkr _ rfl
    rw [if_neg c2_5] at h
    by_cases c2_6 : ((xs (x3).toNatClampNeg) &&& (31 : Int32)) = (6)
    · rw [if_pos c2_6] at h
      cases hz9 : L_law_j356 xL xs x3 s with
      | none => rw [hz9] at h; cases h
      | some z9 =>
      rw [hz9] at h
      refine ax_cut (pc' := 356) (la := [some (.ref 1000), some (.ref 0), some (.ref 63), some (.int x3)]) [some (.ref 1000), some (.ref 0), some (.ref 63), some (.int x3)] (st' := []) (σ' := s) 6 (And.intro rfl (And.intro rfl (And.intro rfl (And.intro rfl (trivial))))) (fun _ hh => (And.intro c1 (ax_tabT (lo := 0) (hg := 29) (j0 := 6) (congrArg Int32.toInt c2_6) ((congrArg (fun z : Int32 => ¬ (z.toInt < 0 ∨ 29 < z.toInt)) c2_6).mpr (by decide)) hh))) (w_L_law_j356 d xL xs x3 s _ hz9 ?_ ?_)
      · intro s31 hq
        subst z9
        dsimp only at h
        have h := Option.some.inj h
        subst r
        exact ax_cut (pc' := 1074) (la := [some (.ref 1000), some (.ref 0), some (.ref 63), some (.int x3)]) [some (.ref 1000), some (.ref 0), some (.ref 63), some (.int x3)] (st' := []) (σ' := s31) 0 (And.intro rfl (And.intro rfl (And.intro rfl (And.intro rfl (trivial))))) (fun _ hh => hh) (hk0 _ rfl)
      · intro q hq
        subst z9
        dsimp only at h
        cases h
        exact hkr _ rfl
    rw [if_neg c2_6] at h
    by_cases c2_7 : ((xs (x3).toNatClampNeg) &&& (31 : Int32)) = (7)
    · rw [if_pos c2_7] at h
      cases hz10 : L_law_j369 xL xs x3 s with
      | none => rw [hz10] at h; cases h
      | some z10 =>
      rw [hz10] at h
      refine ax_cut (pc' := 369) (la := [some (.ref 1000), some (.ref 0), some (.ref 63), some (.int x3)]) [some (.ref 1000), some (.ref 0), some (.ref 63), some (.int x3)] (st' := []) (σ' := s) 6 (And.intro rfl (And.intro rfl (And.intro rfl (And.intro rfl (trivial))))) (fun _ hh => (And.intro c1 (ax_tabT (lo := 0) (hg := 29) (j0 := 7) (congrArg Int32.toInt c2_7) ((congrArg (fun z : Int32 => ¬ (z.toInt < 0 ∨ 29 < z.toInt)) c2_7).mpr (by decide)) hh))) (w_L_law_j369 d xL xs x3 s _ hz10 ?_ ?_)
      · intro s36 hq
        subst z10
        dsimp only at h
        have h := Option.some.inj h
        subst r
        exact ax_cut (pc' := 1074) (la := [some (.ref 1000), some (.ref 0), some (.ref 63), some (.int x3)]) [some (.ref 1000), some (.ref 0), some (.ref 63), some (.int x3)] (st' := []) (σ' := s36) 0 (And.intro rfl (And.intro rfl (And.intro rfl (And.intro rfl (trivial))))) (fun _ hh => hh) (hk0 _ rfl)
      · intro q hq
        subst z10
        dsimp only at h
        cases h
        exact hkr _ rfl
    rw [if_neg c2_7] at h
    by_cases c2_8 : ((xs (x3).toNatClampNeg) &&& (31 : Int32)) = (8)
    · rw [if_pos c2_8] at h
      cases hz11 : L_law_j392 xL xs x3 s with
      | none => rw [hz11] at h; cases h
      | some z11 =>
      rw [hz11] at h
      refine ax_cut (pc' := 392) (la := [some (.ref 1000), some (.ref 0), some (.ref 63), some (.int x3)]) [some (.ref 1000), some (.ref 0), some (.ref 63), some (.int x3)] (st' := []) (σ' := s) 6 (And.intro rfl (And.intro rfl (And.intro rfl (And.intro rfl (trivial))))) (fun _ hh => (And.intro c1 (ax_tabT (lo := 0) (hg := 29) (j0 := 8) (congrArg Int32.toInt c2_8) ((congrArg (fun z : Int32 => ¬ (z.toInt < 0 ∨ 29 < z.toInt)) c2_8).mpr (by decide)) hh))) (w_L_law_j392 d xL xs x3 s _ hz11 ?_ ?_)
      · intro s41 hq
        subst z11
        dsimp only at h
        have h := Option.some.inj h
        subst r
        exact ax_cut (pc' := 1074) (la := [some (.ref 1000), some (.ref 0), some (.ref 63), some (.int x3)]) [some (.ref 1000), some (.ref 0), some (.ref 63), some (.int x3)] (st' := []) (σ' := s41) 0 (And.intro rfl (And.intro rfl (And.intro rfl (And.intro rfl (trivial))))) (fun _ hh => hh) (hk0 _ rfl)
      · intro q hq
        subst z11
        dsimp only at h
        cases h
        exact hkr _ rfl
    rw [if_neg c2_8] at h
    by_cases c2_9 : ((xs (x3).toNatClampNeg) &&& (31 : Int32)) = (9)
    · rw [if_pos c2_9] at h
      cases hz12 : L_law_j425 xL xs x3 s with
      | none => rw [hz12] at h; cases h
      | some z12 =>
      rw [hz12] at h
      refine ax_cut (pc' := 425) (la := [some (.ref 1000), some (.ref 0), some (.ref 63), some (.int x3)]) [some (.ref 1000), some (.ref 0), some (.ref 63), some (.int x3)] (st' := []) (σ' := s) 6 (And.intro rfl (And.intro rfl (And.intro rfl (And.intro rfl (trivial))))) (fun _ hh => (And.intro c1 (ax_tabT (lo := 0) (hg := 29) (j0 := 9) (congrArg Int32.toInt c2_9) ((congrArg (fun z : Int32 => ¬ (z.toInt < 0 ∨ 29 < z.toInt)) c2_9).mpr (by decide)) hh))) (w_L_law_j425 d xL xs x3 s _ hz12 ?_ ?_)
      · intro s45 hq
        subst z12
        dsimp only at h
        have h := Option.some.inj h
        subst r
        exact ax_cut (pc' := 1074) (la := [some (.ref 1000), some (.ref 0), some (.ref 63), some (.int x3)]) [some (.ref 1000), some (.ref 0), some (.ref 63), some (.int x3)] (st' := []) (σ' := s45) 0 (And.intro rfl (And.intro rfl (And.intro rfl (And.intro rfl (trivial))))) (fun _ hh => hh) (hk0 _ rfl)
      · intro q hq
        subst z12
        dsimp only at h
        cases h
        exact hkr _ rfl
    rw [if_neg c2_9] at h
    by_cases c2_10 : ((xs (x3).toNatClampNeg) &&& (31 : Int32)) = (10)
    · rw [if_pos c2_10] at h
      cases hz13 : L_law_j458 xL xs x3 s with
      | none => rw [hz13] at h; cases h
      | some z13 =>
      rw [hz13] at h
      refine ax_cut (pc' := 458) (la := [some (.ref 1000), some (.ref 0), some (.ref 63), some (.int x3)]) [some (.ref 1000), some (.ref 0), some (.ref 63), some (.int x3)] (st' := []) (σ' := s) 6 (And.intro rfl (And.intro rfl (And.intro rfl (And.intro rfl (trivial))))) (fun _ hh => (And.intro c1 (ax_tabT (lo := 0) (hg := 29) (j0 := 10) (congrArg Int32.toInt c2_10) ((congrArg (fun z : Int32 => ¬ (z.toInt < 0 ∨ 29 < z.toInt)) c2_10).mpr (by decide)) hh))) (w_L_law_j458 d xL xs x3 s _ hz13 ?_ ?_)
      · intro s49 hq
        subst z13
        dsimp only at h
        have h := Option.some.inj h
        subst r
        exact ax_cut (pc' := 1074) (la := [some (.ref 1000), some (.ref 0), some (.ref 63), some (.int x3)]) [some (.ref 1000), some (.ref 0), some (.ref 63), some (.int x3)] (st' := []) (σ' := s49) 0 (And.intro rfl (And.intro rfl (And.intro rfl (And.intro rfl (trivial))))) (fun _ hh => hh) (hk0 _ rfl)
      · intro q hq
        subst z13
        dsimp only at h
        cases h
        exact hkr _ rfl
    rw [if_neg c2_10] at h
    by_cases c2_11 : ((xs (x3).toNatClampNeg) &&& (31 : Int32)) = (11)
    · rw [if_pos c2_11] at h
      cases hz14 : L_law_j491 xL xs x3 s with
      | none => rw [hz14] at h; cases h
      | some z14 =>
      rw [hz14] at h
      refine ax_cut (pc' := 491) (la := [some (.ref 1000), some (.ref 0), some (.ref 63), some (.int x3)]) [some (.ref 1000), some (.ref 0), some (.ref 63), some (.int x3)] (st' := []) (σ' := s) 6 (And.intro rfl (And.intro rfl (And.intro rfl (And.intro rfl (trivial))))) (fun _ hh => (And.intro c1 (ax_tabT (lo := 0) (hg := 29) (j0 := 11) (congrArg Int32.toInt c2_11) ((congrArg (fun z : Int32 => ¬ (z.toInt < 0 ∨ 29 < z.toInt)) c2_11).mpr (by decide)) hh))) (w_L_law_j491 d xL xs x3 s _ hz14 ?_ ?_)
      · intro s54 hq
        subst z14
        dsimp only at h
        have h := Option.some.inj h
        subst r
        exact ax_cut (pc' := 1074) (la := [some (.ref 1000), some (.ref 0), some (.ref 63), some (.int x3)]) [some (.ref 1000), some (.ref 0), some (.ref 63), some (.int x3)] (st' := []) (σ' := s54) 0 (And.intro rfl (And.intro rfl (And.intro rfl (And.intro rfl (trivial))))) (fun _ hh => hh) (hk0 _ rfl)
      · intro q hq
        subst z14
        dsimp only at h
        cases h
        exact hkr _ rfl
    rw [if_neg c2_11] at h
    by_cases c2_12 : ((xs (x3).toNatClampNeg) &&& (31 : Int32)) = (12)
    · rw [if_pos c2_12] at h
      cases hz15 : L_law_j524 xL xs x3 s with
      | none => rw [hz15] at h; cases h
      | some z15 =>
      rw [hz15] at h
      refine ax_cut (pc' := 524) (la := [some (.ref 1000), some (.ref 0), some (.ref 63), some (.int x3)]) [some (.ref 1000), some (.ref 0), some (.ref 63), some (.int x3)] (st' := []) (σ' := s) 6 (And.intro rfl (And.intro rfl (And.intro rfl (And.intro rfl (trivial))))) (fun _ hh => (And.intro c1 (ax_tabT (lo := 0) (hg := 29) (j0 := 12) (congrArg Int32.toInt c2_12) ((congrArg (fun z : Int32 => ¬ (z.toInt < 0 ∨ 29 < z.toInt)) c2_12).mpr (by decide)) hh))) (w_L_law_j524 d xL xs x3 s _ hz15 ?_ ?_)
      · intro s59 hq
        subst z15
        dsimp only at h
        have h := Option.some.inj h
        subst r
        exact ax_cut (pc' := 1074) (la := [some (.ref 1000), some (.ref 0), some (.ref 63), some (.int x3)]) [some (.ref 1000), some (.ref 0), some (.ref 63), some (.int x3)] (st' := []) (σ' := s59) 0 (And.intro rfl (And.intro rfl (And.intro rfl (And.intro rfl (trivial))))) (fun _ hh => hh) (hk0 _ rfl)
      · intro q hq
        subst z15
        dsimp only at h
        cases h
        exact hkr _ rfl
    rw [if_neg c2_12] at h
    by_cases c2_13 : ((xs (x3).toNatClampNeg) &&& (31 : Int32)) = (13)
    · rw [if_pos c2_13] at h
      cases hz16 : L_law_j547 xL xs x3 s with
      | none => rw [hz16] at h; cases h
      | some z16 =>
      rw [hz16] at h
      refine ax_cut (pc' := 547) (la := [some (.ref 1000), some (.ref 0), some (.ref 63), some (.int x3)]) [some (.ref 1000), some (.ref 0), some (.ref 63), some (.int x3)] (st' := []) (σ' := s) 6 (And.intro rfl (And.intro rfl (And.intro rfl (And.intro rfl (trivial))))) (fun _ hh => (And.intro c1 (ax_tabT (lo := 0) (hg := 29) (j0 := 13) (congrArg Int32.toInt c2_13) ((congrArg (fun z : Int32 => ¬ (z.toInt < 0 ∨ 29 < z.toInt)) c2_13).mpr (by decide)) hh))) (w_L_law_j547 d xL xs x3 s _ hz16 ?_ ?_)
      · intro s62 hq
        subst z16
        dsimp only at h
        have h := Option.some.inj h
        subst r
        exact ax_cut (pc' := 1074) (la := [some (.ref 1000), some (.ref 0), some (.ref 63), some (.int x3)]) [some (.ref 1000), some (.ref 0), some (.ref 63), some (.int x3)] (st' := []) (σ' := s62) 0 (And.intro rfl (And.intro rfl (And.intro rfl (And.intro rfl (trivial))))) (fun _ hh => hh) (hk0 _ rfl)
      · intro q hq
        subst z16
        dsimp only at h
        cases h
        exact hkr _ rfl
    rw [if_neg c2_13] at h
    by_cases c2_14 : ((xs (x3).toNatClampNeg) &&& (31 : Int32)) = (14)
    · rw [if_pos c2_14] at h
      cases hz17 : L_law_j610 xL xs x3 s with
      | none => rw [hz17] at h; cases h
      | some z17 =>
      rw [hz17] at h
      refine ax_cut (pc' := 610) (la := [some (.ref 1000), some (.ref 0), some (.ref 63), some (.int x3)]) [some (.ref 1000), some (.ref 0), some (.ref 63), some (.int x3)] (st' := []) (σ' := s) 6 (And.intro rfl (And.intro rfl (And.intro rfl (And.intro rfl (trivial))))) (fun _ hh => (And.intro c1 (ax_tabT (lo := 0) (hg := 29) (j0 := 14) (congrArg Int32.toInt c2_14) ((congrArg (fun z : Int32 => ¬ (z.toInt < 0 ∨ 29 < z.toInt)) c2_14).mpr (by decide)) hh))) (w_L_law_j610 d xL xs x3 s _ hz17 ?_ ?_)
      · intro s67 hq
        subst z17
        dsimp only at h
        have h := Option.some.inj h
        subst r
        exact ax_cut (pc' := 1074) (la := [some (.ref 1000), some (.ref 0), some (.ref 63), some (.int x3)]) [some (.ref 1000), some (.ref 0), some (.ref 63), some (.int x3)] (st' := []) (σ' := s67) 0 (And.intro rfl (And.intro rfl (And.intro rfl (And.intro rfl (trivial))))) (fun _ hh => hh) (hk0 _ rfl)
      · intro q hq
        subst z17
        dsimp only at h
        cases h
        exact hkr _ rfl
    rw [if_neg c2_14] at h
    by_cases c2_15 : ((xs (x3).toNatClampNeg) &&& (31 : Int32)) = (15)
    · rw [if_pos c2_15] at h
      cases hz18 : L_law_j633 xL xs x3 s with
      | none => rw [hz18] at h; cases h
      | some z18 =>
      rw [hz18] at h
      refine ax_cut (pc' := 633) (la := [some (.ref 1000), some (.ref 0), some (.ref 63), some (.int x3)]) [some (.ref 1000), some (.ref 0), some (.ref 63), some (.int x3)] (st' := []) (σ' := s) 6 (And.intro rfl (And.intro rfl (And.intro rfl (And.intro rfl (trivial))))) (fun _ hh => (And.intro c1 (ax_tabT (lo := 0) (hg := 29) (j0 := 15) (congrArg Int32.toInt c2_15) ((congrArg (fun z : Int32 => ¬ (z.toInt < 0 ∨ 29 < z.toInt)) c2_15).mpr (by decide)) hh))) (w_L_law_j633 d xL xs x3 s _ hz18 ?_ ?_)
      · intro s72 hq
        subst z18
        dsimp only at h
        have h := Option.some.inj h
        subst r
        exact ax_cut (pc' := 1074) (la := [some (.ref 1000), some (.ref 0), some (.ref 63), some (.int x3)]) [some (.ref 1000), some (.ref 0), some (.ref 63), some (.int x3)] (st' := []) (σ' := s72) 0 (And.intro rfl (And.intro rfl (And.intro rfl (And.intro rfl (trivial))))) (fun _ hh => hh) (hk0 _ rfl)
      · intro q hq
        subst z18
        dsimp only at h
        cases h
        exact hkr _ rfl
    rw [if_neg c2_15] at h
    by_cases c2_16 : ((xs (x3).toNatClampNeg) &&& (31 : Int32)) = (16)
    · rw [if_pos c2_16] at h
      cases hz19 : L_law_j666 xL xs x3 s with
      | none => rw [hz19] at h; cases h
      | some z19 =>
      rw [hz19] at h
      refine ax_cut (pc' := 666) (la := [some (.ref 1000), some (.ref 0), some (.ref 63), some (.int x3)]) [some (.ref 1000), some (.ref 0), some (.ref 63), some (.int x3)] (st' := []) (σ' := s) 6 (And.intro rfl (And.intro rfl (And.intro rfl (And.intro rfl (trivial))))) (fun _ hh => (And.intro c1 (ax_tabT (lo := 0) (hg := 29) (j0 := 16) (congrArg Int32.toInt c2_16) ((congrArg (fun z : Int32 => ¬ (z.toInt < 0 ∨ 29 < z.toInt)) c2_16).mpr (by decide)) hh))) (w_L_law_j666 d xL xs x3 s _ hz19 ?_ ?_)
      · intro s77 hq
        subst z19
        dsimp only at h
        have h := Option.some.inj h
        subst r
        exact ax_cut (pc' := 1074) (la := [some (.ref 1000), some (.ref 0), some (.ref 63), some (.int x3)]) [some (.ref 1000), some (.ref 0), some (.ref 63), some (.int x3)] (st' := []) (σ' := s77) 0 (And.intro rfl (And.intro rfl (And.intro rfl (And.intro rfl (trivial))))) (fun _ hh => hh) (hk0 _ rfl)
      · intro q hq
        subst z19
        dsimp only at h
        cases h
        exact hkr _ rfl
    rw [if_neg c2_16] at h
    by_cases c2_17 : ((xs (x3).toNatClampNeg) &&& (31 : Int32)) = (17)
    · rw [if_pos c2_17] at h
      cases hz20 : L_law_j699 xL xs x3 s with
      | none => rw [hz20] at h; cases h
      | some z20 =>
      rw [hz20] at h
      refine ax_cut (pc' := 699) (la := [some (.ref 1000), some (.ref 0), some (.ref 63), some (.int x3)]) [some (.ref 1000), some (.ref 0), some (.ref 63), some (.int x3)] (st' := []) (σ' := s) 6 (And.intro rfl (And.intro rfl (And.intro rfl (And.intro rfl (trivial))))) (fun _ hh => (And.intro c1 (ax_tabT (lo := 0) (hg := 29) (j0 := 17) (congrArg Int32.toInt c2_17) ((congrArg (fun z : Int32 => ¬ (z.toInt < 0 ∨ 29 < z.toInt)) c2_17).mpr (by decide)) hh))) (w_L_law_j699 d xL xs x3 s _ hz20 ?_ ?_)
      · intro s81 hq
        subst z20
        dsimp only at h
        have h := Option.some.inj h
        subst r
        exact ax_cut (pc' := 1074) (la := [some (.ref 1000), some (.ref 0), some (.ref 63), some (.int x3)]) [some (.ref 1000), some (.ref 0), some (.ref 63), some (.int x3)] (st' := []) (σ' := s81) 0 (And.intro rfl (And.intro rfl (And.intro rfl (And.intro rfl (trivial))))) (fun _ hh => hh) (hk0 _ rfl)
      · intro q hq
        subst z20
        dsimp only at h
        cases h
        exact hkr _ rfl
    rw [if_neg c2_17] at h
    by_cases c2_18 : ((xs (x3).toNatClampNeg) &&& (31 : Int32)) = (18)
    · rw [if_pos c2_18] at h
      cases hz21 : L_law_j722 xL xs x3 s with
      | none => rw [hz21] at h; cases h
      | some z21 =>
      rw [hz21] at h
      refine ax_cut (pc' := 722) (la := [some (.ref 1000), some (.ref 0), some (.ref 63), some (.int x3)]) [some (.ref 1000), some (.ref 0), some (.ref 63), some (.int x3)] (st' := []) (σ' := s) 6 (And.intro rfl (And.intro rfl (And.intro rfl (And.intro rfl (trivial))))) (fun _ hh => (And.intro c1 (ax_tabT (lo := 0) (hg := 29) (j0 := 18) (congrArg Int32.toInt c2_18) ((congrArg (fun z : Int32 => ¬ (z.toInt < 0 ∨ 29 < z.toInt)) c2_18).mpr (by decide)) hh))) (w_L_law_j722 d xL xs x3 s _ hz21 ?_ ?_)
      · intro s85 hq
        subst z21
        dsimp only at h
        have h := Option.some.inj h
        subst r
        exact ax_cut (pc' := 1074) (la := [some (.ref 1000), some (.ref 0), some (.ref 63), some (.int x3)]) [some (.ref 1000), some (.ref 0), some (.ref 63), some (.int x3)] (st' := []) (σ' := s85) 0 (And.intro rfl (And.intro rfl (And.intro rfl (And.intro rfl (trivial))))) (fun _ hh => hh) (hk0 _ rfl)
      · intro q hq
        subst z21
        dsimp only at h
        cases h
        exact hkr _ rfl
    rw [if_neg c2_18] at h
    by_cases c2_19 : ((xs (x3).toNatClampNeg) &&& (31 : Int32)) = (19)
    · rw [if_pos c2_19] at h
      cases hz22 : L_law_j745 xL xs x3 s with
      | none => rw [hz22] at h; cases h
      | some z22 =>
      rw [hz22] at h
      refine ax_cut (pc' := 745) (la := [some (.ref 1000), some (.ref 0), some (.ref 63), some (.int x3)]) [some (.ref 1000), some (.ref 0), some (.ref 63), some (.int x3)] (st' := []) (σ' := s) 6 (And.intro rfl (And.intro rfl (And.intro rfl (And.intro rfl (trivial))))) (fun _ hh => (And.intro c1 (ax_tabT (lo := 0) (hg := 29) (j0 := 19) (congrArg Int32.toInt c2_19) ((congrArg (fun z : Int32 => ¬ (z.toInt < 0 ∨ 29 < z.toInt)) c2_19).mpr (by decide)) hh))) (w_L_law_j745 d xL xs x3 s _ hz22 ?_ ?_)
      · intro s88 hq
        subst z22
        dsimp only at h
        have h := Option.some.inj h
        subst r
        exact ax_cut (pc' := 1074) (la := [some (.ref 1000), some (.ref 0), some (.ref 63), some (.int x3)]) [some (.ref 1000), some (.ref 0), some (.ref 63), some (.int x3)] (st' := []) (σ' := s88) 0 (And.intro rfl (And.intro rfl (And.intro rfl (And.intro rfl (trivial))))) (fun _ hh => hh) (hk0 _ rfl)
      · intro q hq
        subst z22
        dsimp only at h
        cases h
        exact hkr _ rfl
    rw [if_neg c2_19] at h
    by_cases c2_20 : ((xs (x3).toNatClampNeg) &&& (31 : Int32)) = (20)
    · rw [if_pos c2_20] at h
      cases hz23 : L_law_j778 xL xs x3 s with
      | none => rw [hz23] at h; cases h
      | some z23 =>
      rw [hz23] at h
      refine ax_cut (pc' := 778) (la := [some (.ref 1000), some (.ref 0), some (.ref 63), some (.int x3)]) [some (.ref 1000), some (.ref 0), some (.ref 63), some (.int x3)] (st' := []) (σ' := s) 6 (And.intro rfl (And.intro rfl (And.intro rfl (And.intro rfl (trivial))))) (fun _ hh => (And.intro c1 (ax_tabT (lo := 0) (hg := 29) (j0 := 20) (congrArg Int32.toInt c2_20) ((congrArg (fun z : Int32 => ¬ (z.toInt < 0 ∨ 29 < z.toInt)) c2_20).mpr (by decide)) hh))) (w_L_law_j778 d xL xs x3 s _ hz23 ?_ ?_)
      · intro s93 hq
        subst z23
        dsimp only at h
        have h := Option.some.inj h
        subst r
        exact ax_cut (pc' := 1074) (la := [some (.ref 1000), some (.ref 0), some (.ref 63), some (.int x3)]) [some (.ref 1000), some (.ref 0), some (.ref 63), some (.int x3)] (st' := []) (σ' := s93) 0 (And.intro rfl (And.intro rfl (And.intro rfl (And.intro rfl (trivial))))) (fun _ hh => hh) (hk0 _ rfl)
      · intro q hq
        subst z23
        dsimp only at h
        cases h
        exact hkr _ rfl
    rw [if_neg c2_20] at h
    by_cases c2_21 : ((xs (x3).toNatClampNeg) &&& (31 : Int32)) = (21)
    · rw [if_pos c2_21] at h
      cases hz24 : L_law_j811 xL xs x3 s with
      | none => rw [hz24] at h; cases h
      | some z24 =>
      rw [hz24] at h
      refine ax_cut (pc' := 811) (la := [some (.ref 1000), some (.ref 0), some (.ref 63), some (.int x3)]) [some (.ref 1000), some (.ref 0), some (.ref 63), some (.int x3)] (st' := []) (σ' := s) 6 (And.intro rfl (And.intro rfl (And.intro rfl (And.intro rfl (trivial))))) (fun _ hh => (And.intro c1 (ax_tabT (lo := 0) (hg := 29) (j0 := 21) (congrArg Int32.toInt c2_21) ((congrArg (fun z : Int32 => ¬ (z.toInt < 0 ∨ 29 < z.toInt)) c2_21).mpr (by decide)) hh))) (w_L_law_j811 d xL xs x3 s _ hz24 ?_ ?_)
      · intro s98 hq
        subst z24
        dsimp only at h
        have h := Option.some.inj h
        subst r
        exact ax_cut (pc' := 1074) (la := [some (.ref 1000), some (.ref 0), some (.ref 63), some (.int x3)]) [some (.ref 1000), some (.ref 0), some (.ref 63), some (.int x3)] (st' := []) (σ' := s98) 0 (And.intro rfl (And.intro rfl (And.intro rfl (And.intro rfl (trivial))))) (fun _ hh => hh) (hk0 _ rfl)
      · intro q hq
        subst z24
        dsimp only at h
        cases h
        exact hkr _ rfl
    rw [if_neg c2_21] at h
    by_cases c2_22 : ((xs (x3).toNatClampNeg) &&& (31 : Int32)) = (22)
    · rw [if_pos c2_22] at h
      cases hz25 : L_law_j854 xL xs x3 s with
      | none => rw [hz25] at h; cases h
      | some z25 =>
      rw [hz25] at h
      refine ax_cut (pc' := 854) (la := [some (.ref 1000), some (.ref 0), some (.ref 63), some (.int x3)]) [some (.ref 1000), some (.ref 0), some (.ref 63), some (.int x3)] (st' := []) (σ' := s) 6 (And.intro rfl (And.intro rfl (And.intro rfl (And.intro rfl (trivial))))) (fun _ hh => (And.intro c1 (ax_tabT (lo := 0) (hg := 29) (j0 := 22) (congrArg Int32.toInt c2_22) ((congrArg (fun z : Int32 => ¬ (z.toInt < 0 ∨ 29 < z.toInt)) c2_22).mpr (by decide)) hh))) (w_L_law_j854 d xL xs x3 s _ hz25 ?_ ?_)
      · intro s101 hq
        subst z25
        dsimp only at h
        have h := Option.some.inj h
        subst r
        exact ax_cut (pc' := 1074) (la := [some (.ref 1000), some (.ref 0), some (.ref 63), some (.int x3)]) [some (.ref 1000), some (.ref 0), some (.ref 63), some (.int x3)] (st' := []) (σ' := s101) 0 (And.intro rfl (And.intro rfl (And.intro rfl (And.intro rfl (trivial))))) (fun _ hh => hh) (hk0 _ rfl)
      · intro q hq
        subst z25
        dsimp only at h
        cases h
        exact hkr _ rfl
    rw [if_neg c2_22] at h
    by_cases c2_23 : ((xs (x3).toNatClampNeg) &&& (31 : Int32)) = (23)
    · rw [if_pos c2_23] at h
      cases hz26 : L_law_j877 xL xs x3 s with
      | none => rw [hz26] at h; cases h
      | some z26 =>
      rw [hz26] at h
      refine ax_cut (pc' := 877) (la := [some (.ref 1000), some (.ref 0), some (.ref 63), some (.int x3)]) [some (.ref 1000), some (.ref 0), some (.ref 63), some (.int x3)] (st' := []) (σ' := s) 6 (And.intro rfl (And.intro rfl (And.intro rfl (And.intro rfl (trivial))))) (fun _ hh => (And.intro c1 (ax_tabT (lo := 0) (hg := 29) (j0 := 23) (congrArg Int32.toInt c2_23) ((congrArg (fun z : Int32 => ¬ (z.toInt < 0 ∨ 29 < z.toInt)) c2_23).mpr (by decide)) hh))) (w_L_law_j877 d xL xs x3 s _ hz26 ?_ ?_)
      · intro s106 hq
        subst z26
        dsimp only at h
        have h := Option.some.inj h
        subst r
        exact ax_cut (pc' := 1074) (la := [some (.ref 1000), some (.ref 0), some (.ref 63), some (.int x3)]) [some (.ref 1000), some (.ref 0), some (.ref 63), some (.int x3)] (st' := []) (σ' := s106) 0 (And.intro rfl (And.intro rfl (And.intro rfl (And.intro rfl (trivial))))) (fun _ hh => hh) (hk0 _ rfl)
      · intro q hq
        subst z26
        dsimp only at h
        cases h
        exact hkr _ rfl
    rw [if_neg c2_23] at h
    by_cases c2_24 : ((xs (x3).toNatClampNeg) &&& (31 : Int32)) = (24)
    · rw [if_pos c2_24] at h
      cases hz27 : L_law_j930 xL xs x3 s with
      | none => rw [hz27] at h; cases h
      | some z27 =>
      rw [hz27] at h
      refine ax_cut (pc' := 930) (la := [some (.ref 1000), some (.ref 0), some (.ref 63), some (.int x3)]) [some (.ref 1000), some (.ref 0), some (.ref 63), some (.int x3)] (st' := []) (σ' := s) 6 (And.intro rfl (And.intro rfl (And.intro rfl (And.intro rfl (trivial))))) (fun _ hh => (And.intro c1 (ax_tabT (lo := 0) (hg := 29) (j0 := 24) (congrArg Int32.toInt c2_24) ((congrArg (fun z : Int32 => ¬ (z.toInt < 0 ∨ 29 < z.toInt)) c2_24).mpr (by decide)) hh))) (w_L_law_j930 d xL xs x3 s _ hz27 ?_ ?_)
      · intro s113 hq
        subst z27
        dsimp only at h
        have h := Option.some.inj h
        subst r
        exact ax_cut (pc' := 1074) (la := [some (.ref 1000), some (.ref 0), some (.ref 63), some (.int x3)]) [some (.ref 1000), some (.ref 0), some (.ref 63), some (.int x3)] (st' := []) (σ' := s113) 0 (And.intro rfl (And.intro rfl (And.intro rfl (And.intro rfl (trivial))))) (fun _ hh => hh) (hk0 _ rfl)
      · intro q hq
        subst z27
        dsimp only at h
        cases h
        exact hkr _ rfl
    rw [if_neg c2_24] at h
    by_cases c2_25 : ((xs (x3).toNatClampNeg) &&& (31 : Int32)) = (25)
    · rw [if_pos c2_25] at h
      cases hz28 : L_law_j979 xL xs x3 s with
      | none => rw [hz28] at h; cases h
      | some z28 =>
      rw [hz28] at h
      refine ax_cut (pc' := 979) (la := [some (.ref 1000), some (.ref 0), some (.ref 63), some (.int x3)]) [some (.ref 1000), some (.ref 0), some (.ref 63), some (.int x3)] (st' := []) (σ' := s) 6 (And.intro rfl (And.intro rfl (And.intro rfl (And.intro rfl (trivial))))) (fun _ hh => (And.intro c1 (ax_tabT (lo := 0) (hg := 29) (j0 := 25) (congrArg Int32.toInt c2_25) ((congrArg (fun z : Int32 => ¬ (z.toInt < 0 ∨ 29 < z.toInt)) c2_25).mpr (by decide)) hh))) (w_L_law_j979 d xL xs x3 s _ hz28 ?_ ?_)
      · intro s114 hq
        subst z28
        dsimp only at h
        have h := Option.some.inj h
        subst r
        exact ax_cut (pc' := 1074) (la := [some (.ref 1000), some (.ref 0), some (.ref 63), some (.int x3)]) [some (.ref 1000), some (.ref 0), some (.ref 63), some (.int x3)] (st' := []) (σ' := s114) 0 (And.intro rfl (And.intro rfl (And.intro rfl (And.intro rfl (trivial))))) (fun _ hh => hh) (hk0 _ rfl)
      · intro q hq
        subst z28
        dsimp only at h
        cases h
        exact hkr _ rfl
    rw [if_neg c2_25] at h
    by_cases c2_26 : ((xs (x3).toNatClampNeg) &&& (31 : Int32)) = (26)
    · rw [if_pos c2_26] at h
      cases hz29 : L_law_j1002 xL xs x3 s with
      | none => rw [hz29] at h; cases h
      | some z29 =>
      rw [hz29] at h
      refine ax_cut (pc' := 1002) (la := [some (.ref 1000), some (.ref 0), some (.ref 63), some (.int x3)]) [some (.ref 1000), some (.ref 0), some (.ref 63), some (.int x3)] (st' := []) (σ' := s) 6 (And.intro rfl (And.intro rfl (And.intro rfl (And.intro rfl (trivial))))) (fun _ hh => (And.intro c1 (ax_tabT (lo := 0) (hg := 29) (j0 := 26) (congrArg Int32.toInt c2_26) ((congrArg (fun z : Int32 => ¬ (z.toInt < 0 ∨ 29 < z.toInt)) c2_26).mpr (by decide)) hh))) (w_L_law_j1002 d xL xs x3 s _ hz29 ?_ ?_)
      · intro s117 hq
        subst z29
        dsimp only at h
        have h := Option.some.inj h
        subst r
        exact ax_cut (pc' := 1074) (la := [some (.ref 1000), some (.ref 0), some (.ref 63), some (.int x3)]) [some (.ref 1000), some (.ref 0), some (.ref 63), some (.int x3)] (st' := []) (σ' := s117) 0 (And.intro rfl (And.intro rfl (And.intro rfl (And.intro rfl (trivial))))) (fun _ hh => hh) (hk0 _ rfl)
      · intro q hq
        subst z29
        dsimp only at h
        cases h
        exact hkr _ rfl
    rw [if_neg c2_26] at h
    by_cases c2_27 : ((xs (x3).toNatClampNeg) &&& (31 : Int32)) = (27)
    · rw [if_pos c2_27] at h
      cases hz30 : L_law_j1015 xL xs x3 s with
      | none => rw [hz30] at h; cases h
      | some z30 =>
      rw [hz30] at h
      refine ax_cut (pc' := 1015) (la := [some (.ref 1000), some (.ref 0), some (.ref 63), some (.int x3)]) [some (.ref 1000), some (.ref 0), some (.ref 63), some (.int x3)] (st' := []) (σ' := s) 6 (And.intro rfl (And.intro rfl (And.intro rfl (And.intro rfl (trivial))))) (fun _ hh => (And.intro c1 (ax_tabT (lo := 0) (hg := 29) (j0 := 27) (congrArg Int32.toInt c2_27) ((congrArg (fun z : Int32 => ¬ (z.toInt < 0 ∨ 29 < z.toInt)) c2_27).mpr (by decide)) hh))) (w_L_law_j1015 d xL xs x3 s _ hz30 ?_ ?_)
      · intro s122 hq
        subst z30
        dsimp only at h
        have h := Option.some.inj h
        subst r
        exact ax_cut (pc' := 1074) (la := [some (.ref 1000), some (.ref 0), some (.ref 63), some (.int x3)]) [some (.ref 1000), some (.ref 0), some (.ref 63), some (.int x3)] (st' := []) (σ' := s122) 0 (And.intro rfl (And.intro rfl (And.intro rfl (And.intro rfl (trivial))))) (fun _ hh => hh) (hk0 _ rfl)
      · intro q hq
        subst z30
        dsimp only at h
        cases h
        exact hkr _ rfl
    rw [if_neg c2_27] at h
    by_cases c2_28 : ((xs (x3).toNatClampNeg) &&& (31 : Int32)) = (28)
    · rw [if_pos c2_28] at h
      cases hz31 : L_law_j1028 xL xs x3 s with
      | none => rw [hz31] at h; cases h
      | some z31 =>
      rw [hz31] at h
      refine ax_cut (pc' := 1028) (la := [some (.ref 1000), some (.ref 0), some (.ref 63), some (.int x3)]) [some (.ref 1000), some (.ref 0), some (.ref 63), some (.int x3)] (st' := []) (σ' := s) 6 (And.intro rfl (And.intro rfl (And.intro rfl (And.intro rfl (trivial))))) (fun _ hh => (And.intro c1 (ax_tabT (lo := 0) (hg := 29) (j0 := 28) (congrArg Int32.toInt c2_28) ((congrArg (fun z : Int32 => ¬ (z.toInt < 0 ∨ 29 < z.toInt)) c2_28).mpr (by decide)) hh))) (w_L_law_j1028 d xL xs x3 s _ hz31 ?_ ?_)
      · intro s127 hq
        subst z31
        dsimp only at h
        have h := Option.some.inj h
        subst r
        exact ax_cut (pc' := 1074) (la := [some (.ref 1000), some (.ref 0), some (.ref 63), some (.int x3)]) [some (.ref 1000), some (.ref 0), some (.ref 63), some (.int x3)] (st' := []) (σ' := s127) 0 (And.intro rfl (And.intro rfl (And.intro rfl (And.intro rfl (trivial))))) (fun _ hh => hh) (hk0 _ rfl)
      · intro q hq
        subst z31
        dsimp only at h
        cases h
        exact hkr _ rfl
    rw [if_neg c2_28] at h
    by_cases c2_29 : ((xs (x3).toNatClampNeg) &&& (31 : Int32)) = (29)
    · rw [if_pos c2_29] at h
      cases hz32 : L_law_j1051 xL xs x3 s with
      | none => rw [hz32] at h; cases h
      | some z32 =>
      rw [hz32] at h
      refine ax_cut (pc' := 1051) (la := [some (.ref 1000), some (.ref 0), some (.ref 63), some (.int x3)]) [some (.ref 1000), some (.ref 0), some (.ref 63), some (.int x3)] (st' := []) (σ' := s) 6 (And.intro rfl (And.intro rfl (And.intro rfl (And.intro rfl (trivial))))) (fun _ hh => (And.intro c1 (ax_tabT (lo := 0) (hg := 29) (j0 := 29) (congrArg Int32.toInt c2_29) ((congrArg (fun z : Int32 => ¬ (z.toInt < 0 ∨ 29 < z.toInt)) c2_29).mpr (by decide)) hh))) (w_L_law_j1051 d xL xs x3 s _ hz32 ?_ ?_)
      · intro s130 hq
        subst z32
        dsimp only at h
        have h := Option.some.inj h
        subst r
        exact ax_cut (pc' := 1074) (la := [some (.ref 1000), some (.ref 0), some (.ref 63), some (.int x3)]) [some (.ref 1000), some (.ref 0), some (.ref 63), some (.int x3)] (st' := []) (σ' := s130) 0 (And.intro rfl (And.intro rfl (And.intro rfl (And.intro rfl (trivial))))) (fun _ hh => hh) (hk0 _ rfl)
      · intro q hq
        subst z32
        dsimp only at h
        cases h
        exact hkr _ rfl
    rw [if_neg c2_29] at h
    have c2_r : (((xs (x3).toNatClampNeg) &&& (31 : Int32))).toInt < 0 ∨ 29 < (((xs (x3).toNatClampNeg) &&& (31 : Int32))).toInt := by
      have ec2_0 : (((xs (x3).toNatClampNeg) &&& (31 : Int32))).toInt ≠ (0 : Int) := fun e => c2_0 (Int32.toInt_inj.mp (e.trans (by decide)))
      have ec2_1 : (((xs (x3).toNatClampNeg) &&& (31 : Int32))).toInt ≠ (1 : Int) := fun e => c2_1 (Int32.toInt_inj.mp (e.trans (by decide)))
      have ec2_2 : (((xs (x3).toNatClampNeg) &&& (31 : Int32))).toInt ≠ (2 : Int) := fun e => c2_2 (Int32.toInt_inj.mp (e.trans (by decide)))
      have ec2_3 : (((xs (x3).toNatClampNeg) &&& (31 : Int32))).toInt ≠ (3 : Int) := fun e => c2_3 (Int32.toInt_inj.mp (e.trans (by decide)))
      have ec2_4 : (((xs (x3).toNatClampNeg) &&& (31 : Int32))).toInt ≠ (4 : Int) := fun e => c2_4 (Int32.toInt_inj.mp (e.trans (by decide)))
      have ec2_5 : (((xs (x3).toNatClampNeg) &&& (31 : Int32))).toInt ≠ (5 : Int) := fun e => c2_5 (Int32.toInt_inj.mp (e.trans (by decide)))
      have ec2_6 : (((xs (x3).toNatClampNeg) &&& (31 : Int32))).toInt ≠ (6 : Int) := fun e => c2_6 (Int32.toInt_inj.mp (e.trans (by decide)))
      have ec2_7 : (((xs (x3).toNatClampNeg) &&& (31 : Int32))).toInt ≠ (7 : Int) := fun e => c2_7 (Int32.toInt_inj.mp (e.trans (by decide)))
      have ec2_8 : (((xs (x3).toNatClampNeg) &&& (31 : Int32))).toInt ≠ (8 : Int) := fun e => c2_8 (Int32.toInt_inj.mp (e.trans (by decide)))
      have ec2_9 : (((xs (x3).toNatClampNeg) &&& (31 : Int32))).toInt ≠ (9 : Int) := fun e => c2_9 (Int32.toInt_inj.mp (e.trans (by decide)))
      have ec2_10 : (((xs (x3).toNatClampNeg) &&& (31 : Int32))).toInt ≠ (10 : Int) := fun e => c2_10 (Int32.toInt_inj.mp (e.trans (by decide)))
      have ec2_11 : (((xs (x3).toNatClampNeg) &&& (31 : Int32))).toInt ≠ (11 : Int) := fun e => c2_11 (Int32.toInt_inj.mp (e.trans (by decide)))
      have ec2_12 : (((xs (x3).toNatClampNeg) &&& (31 : Int32))).toInt ≠ (12 : Int) := fun e => c2_12 (Int32.toInt_inj.mp (e.trans (by decide)))
      have ec2_13 : (((xs (x3).toNatClampNeg) &&& (31 : Int32))).toInt ≠ (13 : Int) := fun e => c2_13 (Int32.toInt_inj.mp (e.trans (by decide)))
      have ec2_14 : (((xs (x3).toNatClampNeg) &&& (31 : Int32))).toInt ≠ (14 : Int) := fun e => c2_14 (Int32.toInt_inj.mp (e.trans (by decide)))
      have ec2_15 : (((xs (x3).toNatClampNeg) &&& (31 : Int32))).toInt ≠ (15 : Int) := fun e => c2_15 (Int32.toInt_inj.mp (e.trans (by decide)))
      have ec2_16 : (((xs (x3).toNatClampNeg) &&& (31 : Int32))).toInt ≠ (16 : Int) := fun e => c2_16 (Int32.toInt_inj.mp (e.trans (by decide)))
      have ec2_17 : (((xs (x3).toNatClampNeg) &&& (31 : Int32))).toInt ≠ (17 : Int) := fun e => c2_17 (Int32.toInt_inj.mp (e.trans (by decide)))
      have ec2_18 : (((xs (x3).toNatClampNeg) &&& (31 : Int32))).toInt ≠ (18 : Int) := fun e => c2_18 (Int32.toInt_inj.mp (e.trans (by decide)))
      have ec2_19 : (((xs (x3).toNatClampNeg) &&& (31 : Int32))).toInt ≠ (19 : Int) := fun e => c2_19 (Int32.toInt_inj.mp (e.trans (by decide)))
      have ec2_20 : (((xs (x3).toNatClampNeg) &&& (31 : Int32))).toInt ≠ (20 : Int) := fun e => c2_20 (Int32.toInt_inj.mp (e.trans (by decide)))
      have ec2_21 : (((xs (x3).toNatClampNeg) &&& (31 : Int32))).toInt ≠ (21 : Int) := fun e => c2_21 (Int32.toInt_inj.mp (e.trans (by decide)))
      have ec2_22 : (((xs (x3).toNatClampNeg) &&& (31 : Int32))).toInt ≠ (22 : Int) := fun e => c2_22 (Int32.toInt_inj.mp (e.trans (by decide)))
      have ec2_23 : (((xs (x3).toNatClampNeg) &&& (31 : Int32))).toInt ≠ (23 : Int) := fun e => c2_23 (Int32.toInt_inj.mp (e.trans (by decide)))
      have ec2_24 : (((xs (x3).toNatClampNeg) &&& (31 : Int32))).toInt ≠ (24 : Int) := fun e => c2_24 (Int32.toInt_inj.mp (e.trans (by decide)))
      have ec2_25 : (((xs (x3).toNatClampNeg) &&& (31 : Int32))).toInt ≠ (25 : Int) := fun e => c2_25 (Int32.toInt_inj.mp (e.trans (by decide)))
      have ec2_26 : (((xs (x3).toNatClampNeg) &&& (31 : Int32))).toInt ≠ (26 : Int) := fun e => c2_26 (Int32.toInt_inj.mp (e.trans (by decide)))
      have ec2_27 : (((xs (x3).toNatClampNeg) &&& (31 : Int32))).toInt ≠ (27 : Int) := fun e => c2_27 (Int32.toInt_inj.mp (e.trans (by decide)))
      have ec2_28 : (((xs (x3).toNatClampNeg) &&& (31 : Int32))).toInt ≠ (28 : Int) := fun e => c2_28 (Int32.toInt_inj.mp (e.trans (by decide)))
      have ec2_29 : (((xs (x3).toNatClampNeg) &&& (31 : Int32))).toInt ≠ (29 : Int) := fun e => c2_29 (Int32.toInt_inj.mp (e.trans (by decide)))
      omega
    have h := Option.some.inj h
    subst r
    exact ax_cut (pc' := 1074) (la := [some (.ref 1000), some (.ref 0), some (.ref 63), some (.int x3)]) [some (.ref 1000), some (.ref 0), some (.ref 63), some (.int x3)] (st' := []) (σ' := s) 6 (And.intro rfl (And.intro rfl (And.intro rfl (And.intro rfl (trivial))))) (fun _ hh => (And.intro c1 (ax_tabF (lo := 0) (hg := 29) rfl c2_r hh))) (hk0 _ rfl)
theorem w_L_law_l18 (d : Nat) (xL : Nat) (xs : Nat → Int32) {o : ax_O} : ∀ (n : Nat) (x3 : Int32) (s : ax_S) (r : Int32 × ax_S) (h : L_law_l18 xL xs n x3 s = some r) (hkr : ∀ q, r = q → o = (some (.int q.1), q.2)), ax_go true (some (xL, xs)) (ax_ev true (d + 53)) ax_m286 18 [some (.ref 1000), some (.ref 0), some (.ref 63), some (.int x3)] [] s o := by
  intro n
  induction n with
  | zero => intro x3 s r h hkr; cases h
  | succ n ih =>
    intro x3 s r h hkr
    rw [L_law_l18] at h
    by_cases c1 : ((Int32.ofNat xL) - (6 : Int32)) < x3
    · rw [if_pos c1] at h
      have h := Option.some.inj h
      subst r
      exact ax_end 8 (And.intro (fun _ => (And.intro (Or.inr rfl) (hkr _ rfl))) (fun q => absurd c1 q))
    · rw [if_neg c1] at h
      cases hz2 : L_law_j27 xL xs x3 s with
      | none => rw [hz2] at h; cases h
      | some z2 =>
      rw [hz2] at h
      refine ax_cut (pc' := 27) (la := [some (.ref 1000), some (.ref 0), some (.ref 63), some (.int x3)]) [some (.ref 1000), some (.ref 0), some (.ref 63), some (.int x3)] (st' := []) (σ' := s) 6 (And.intro rfl (And.intro rfl (And.intro rfl (And.intro rfl (trivial))))) (fun _ hh => (And.intro (fun q => absurd q c1) (fun _ => hh))) (w_L_law_j27 d xL xs x3 s _ hz2 ?_ ?_)
      · intro s131 hq
        subst z2
        dsimp only at h
        exact ax_cut (pc' := 18) (la := [some (.ref 1000), some (.ref 0), some (.ref 63), some (.int (x3 + (6)))]) [some (.ref 1000), some (.ref 0), some (.ref 63), some (.int (x3 + (6)))] (st' := []) (σ' := s131) 2 (And.intro rfl (And.intro rfl (And.intro rfl (And.intro rfl (trivial))))) (fun _ hh => hh) (ih (x3 + (6)) s131 _ h hkr)
      · intro q hq
        subst z2
        dsimp only at h
        cases h
        exact hkr _ rfl
