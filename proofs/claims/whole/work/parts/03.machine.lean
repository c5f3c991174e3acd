/-! THE PURE MACHINE: the claim's bytecode over a store of whole numbers. Cells have numbers in the order in which they are made; what a cell is (ax_shl) and which cell a field of references holds (ax_rfl) never changes. -/
abbrev ax_L : Type := List (Option Value)
abbrev ax_S : Type := Nat × (Nat → Nat → Int32) × (Nat → Nat → Int64)
abbrev ax_O : Type := Option Value × ax_S
abbrev ax_E : Type := Nat → List Value → ax_S → ax_O → Prop
abbrev ax_M : Type := MethodName × ByteArray × Nat × Option FieldType × Nat × (Nat → Option (Instr × Nat))
abbrev ax_X : Type := Option (Nat × (Nat → Int32))
def ax_sh (k : Nat) : Nat ⊕ (Nat × Nat) := ax_shl.getD k (.inr (9, 0))
def ax_rf (k j : Nat) : Nat := (ax_rfl.getD k []).getD j 0
def ax_kd (c j : Nat) : Nat := (ax_kdl.getD c []).getD j 9
def ax_ty (c : Nat) : Nat → FieldType := ax_tyl.getD c (fun _ => .int)
def ax_on (o : Nat) : String := ax_onl.getD o ""
def ax_md (n : Nat) : ax_M := ax_mdl.getD n ax_m0
def ax_fl (o x ci : Nat) : Option Nat := match (ax_fll.getD o []).find? (fun q => Nat.beq q.1 x) with
  | some q => (match q.2.2.find? (fun r => Nat.beq r.1 ci) with
    | some r => some r.2.1
    | none => none)
  | none => none
def ax_kc (o x : Nat) : Option Int32 := match (ax_kcl.getD o []).find? (fun q => Nat.beq q.1 x) with
  | some q => some q.2.1
  | none => none
def ax_kl (o x : Nat) : Option Int64 := match ax_kll.find? (fun q => Nat.beq q.1 o && Nat.beq q.2.1 x) with
  | some q => some q.2.2.1
  | none => none
def ax_nw (o x : Nat) : Option Nat := match (ax_nwl.getD o []).find? (fun q => Nat.beq q.1 x) with
  | some q => some q.2.1
  | none => none
def ax_ca (o x : Nat) : Option (Nat × Nat × Nat × List (Nat × Nat × Nat × Nat × Nat × Nat)) := match (ax_cal.getD o []).find? (fun q => Nat.beq q.1 x) with
  | some q => some q.2
  | none => none
def ax_pick (ci : Nat) (es : List (Nat × Nat × Nat × Nat × Nat × Nat)) : Option Nat := match es.find? (fun e => Nat.beq e.1 ci) with
  | some e => some e.2.1
  | none => none
def ax_up {α : Type} (f : Nat → α) (k : Nat) (v : α) : Nat → α := fun j => if j = k then v else f j
def ax_sI (σ : ax_S) (a j : Nat) (x : Int32) : ax_S := (σ.1, ax_up σ.2.1 a (upd (σ.2.1 a) j x), σ.2.2)
def ax_sL (σ : ax_S) (a j : Nat) (x : Int64) : ax_S := (σ.1, σ.2.1, ax_up σ.2.2 a (vp_updL (σ.2.2 a) j x))
def ax_sA (σ : ax_S) (a : Nat) (f : Nat → Int32) : ax_S := (σ.1, ax_up σ.2.1 a f, σ.2.2)
def ax_nc (σ : ax_S) : ax_S := (σ.1 + 1, ax_up σ.2.1 σ.1 (fun _ => 0), ax_up σ.2.2 σ.1 (fun _ => 0))
def ax_isL : Option Value → Bool
  | some v => Nat.beq v.category 2
  | none => false
def ax_kill (ls : ax_L) (i : Nat) : ax_L := bif ax_isL (ls.getD i none) then ls.set i none else ls
def ax_st1 (ls : ax_L) (i : Nat) (v : Value) : ax_L := (ax_kill ls (i - 1)).set i (some v)
def ax_st2 (ls : ax_L) (i : Nat) (v : Value) : ax_L := ((ax_kill ls (i - 1)).set i (some v)).set (i + 1) none
def ax_cmp (c : Jvm.ClassFile.Cond) (x y : Int32) : Prop := match c with
  | .eq => x = y
  | .ne => x ≠ y
  | .lt => x < y
  | .ge => y ≤ x
  | .gt => y < x
  | .le => x ≤ y
def ax_jp (pc : Nat) (off : Int) (K : Nat → Prop) : Prop := match (pc : Int) + off with
  | Int.ofNat t => K t
  | Int.negSucc _ => False
/-- what java/lang/Math's rows leave on the stack -/
def ax_math (k : Nat) (st : List Value) : Option (List Value) := match k, st with
  | 10, .int y :: .int x :: r => some (.int (if x < y then y else x) :: r)
  | 11, .int y :: .int x :: r => some (.int (if y < x then y else x) :: r)
  | 12, .int x :: r => some (.int (if 0 ≤ x then x else 0 - x) :: r)
  | 13, .long y :: .long x :: r => some (.long (if y < x then x else y) :: r)
  | 14, .long y :: .long x :: r => some (.long (if y < x then y else x) :: r)
  | _, _ => none
/-- one instruction: K goes on behind it, Rt takes an answer -/
def ax_ins (ph : Bool) (X : ax_X) (E : ax_E) (M : ax_M) (i : Instr) (pc : Nat) (ls : ax_L) (st : List Value) (σ : ax_S) (K : Nat → ax_L → List Value → ax_S → Prop) (Rt : Option Value → ax_S → Prop) : Prop := match i with
  | .iconst n => K (pc + 1) ls (.int (Int32.ofInt n) :: st) σ
  | .bipush n => K (pc + 2) ls (.int (Int8.ofInt n).toInt32 :: st) σ
  | .sipush n => K (pc + 3) ls (.int (Int16.ofInt n).toInt32 :: st) σ
  | .lconst n => K (pc + 1) ls (.long (Int64.ofNat (n : Nat)) :: st) σ
  | .ldc x => (match ax_kc M.2.2.2.2.1 x with
    | some v => K (pc + 2) ls (.int v :: st) σ
    | none => False)
  | .ldc_w x => (match ax_kc M.2.2.2.2.1 x with
    | some v => K (pc + 3) ls (.int v :: st) σ
    | none => False)
  | .ldc2_w x => (match ax_kl M.2.2.2.2.1 x with
    | some v => K (pc + 3) ls (.long v :: st) σ
    | none => False)
  | .iload_n k => (match ls.getD k none with
    | some (.int v) => K (pc + 1) ls (.int v :: st) σ
    | _ => False)
  | .iload k => (match ls.getD k none with
    | some (.int v) => K (pc + 2) ls (.int v :: st) σ
    | _ => False)
  | .lload_n k => (match ls.getD k none with
    | some (.long v) => K (pc + 1) ls (.long v :: st) σ
    | _ => False)
  | .lload k => (match ls.getD k none with
    | some (.long v) => K (pc + 2) ls (.long v :: st) σ
    | _ => False)
  | .aload_n k => (match ls.getD k none with
    | some (.ref v) => K (pc + 1) ls (.ref v :: st) σ
    | _ => False)
  | .aload k => (match ls.getD k none with
    | some (.ref v) => K (pc + 2) ls (.ref v :: st) σ
    | _ => False)
  | .istore_n k => (match st with
    | .int v :: r => bif Nat.blt k ls.length then K (pc + 1) (ax_st1 ls k (.int v)) r σ else False
    | _ => False)
  | .istore k => (match st with
    | .int v :: r => bif Nat.blt k ls.length then K (pc + 2) (ax_st1 ls k (.int v)) r σ else False
    | _ => False)
  | .astore_n k => (match st with
    | .ref v :: r => bif Nat.blt k ls.length then K (pc + 1) (ax_st1 ls k (.ref v)) r σ else False
    | _ => False)
  | .astore k => (match st with
    | .ref v :: r => bif Nat.blt k ls.length then K (pc + 2) (ax_st1 ls k (.ref v)) r σ else False
    | _ => False)
  | .lstore k => (match st with
    | .long v :: r => bif Nat.blt (k + 1) ls.length then K (pc + 2) (ax_st2 ls k (.long v)) r σ else False
    | _ => False)
  | .iinc k n => (match ls.getD k none with
    | some (.int v) => K (pc + 3) (ax_st1 ls k (.int (v + Int32.ofInt n))) st σ
    | _ => False)
  | .iadd => (match st with
    | .int y :: .int x :: r => K (pc + 1) ls (.int (x + y) :: r) σ
    | _ => False)
  | .isub => (match st with
    | .int y :: .int x :: r => K (pc + 1) ls (.int (x - y) :: r) σ
    | _ => False)
  | .imul => (match st with
    | .int y :: .int x :: r => K (pc + 1) ls (.int (x * y) :: r) σ
    | _ => False)
  | .idiv => (match st with
    | .int y :: .int x :: r => ¬ y = 0 ∧ K (pc + 1) ls (.int (x / y) :: r) σ
    | _ => False)
  | .irem => (match st with
    | .int y :: .int x :: r => ¬ y = 0 ∧ K (pc + 1) ls (.int (x - x / y * y) :: r) σ
    | _ => False)
  | .ineg => (match st with
    | .int x :: r => K (pc + 1) ls (.int (-x) :: r) σ
    | _ => False)
  | .iand => (match st with
    | .int y :: .int x :: r => K (pc + 1) ls (.int (x &&& y) :: r) σ
    | _ => False)
  | .ior => (match st with
    | .int y :: .int x :: r => K (pc + 1) ls (.int (x ||| y) :: r) σ
    | _ => False)
  | .ixor => (match st with
    | .int y :: .int x :: r => K (pc + 1) ls (.int (x ^^^ y) :: r) σ
    | _ => False)
  | .ishl => (match st with
    | .int y :: .int x :: r => K (pc + 1) ls (.int (x <<< (y &&& 31)) :: r) σ
    | _ => False)
  | .ishr => (match st with
    | .int y :: .int x :: r => K (pc + 1) ls (.int (x >>> (y &&& 31)) :: r) σ
    | _ => False)
  | .iushr => (match st with
    | .int y :: .int x :: r => K (pc + 1) ls (.int (x.toUInt32 >>> (y.toUInt32 &&& Int32.toUInt32 31)).toInt32 :: r) σ
    | _ => False)
  | .i2l => (match st with
    | .int x :: r => K (pc + 1) ls (.long x.toInt64 :: r) σ
    | _ => False)
  | .l2i => (match st with
    | .long x :: r => K (pc + 1) ls (.int x.toInt32 :: r) σ
    | _ => False)
  | .i2b => (match st with
    | .int x :: r => K (pc + 1) ls (.int x.toInt8.toInt32 :: r) σ
    | _ => False)
  | .lsub => (match st with
    | .long y :: .long x :: r => K (pc + 1) ls (.long (x - y) :: r) σ
    | _ => False)
  | .lcmp => (match st with
    | .long y :: .long x :: r => K (pc + 1) ls (.int (lg_cmp x y) :: r) σ
    | _ => False)
  | .dup => (match st with
    | .int x :: r => K (pc + 1) ls (.int x :: .int x :: r) σ
    | .ref x :: r => K (pc + 1) ls (.ref x :: .ref x :: r) σ
    | _ => False)
  | .dup2 => (match st with
    | .int y :: .ref x :: r => K (pc + 1) ls (.int y :: .ref x :: .int y :: .ref x :: r) σ
    | _ => False)
  | .pop => (match st with
    | .int _ :: r => K (pc + 1) ls r σ
    | _ => False)
  | .goto off => ax_jp pc off (fun t => K t ls st σ)
  | .ifCond c off => (match st with
    | .int x :: r => (ax_cmp c x 0 → ax_jp pc off (fun t => K t ls r σ)) ∧ (¬ ax_cmp c x 0 → K (pc + 3) ls r σ)
    | _ => False)
  | .if_icmp c off => (match st with
    | .int y :: .int x :: r => (ax_cmp c x y → ax_jp pc off (fun t => K t ls r σ)) ∧ (¬ ax_cmp c x y → K (pc + 3) ls r σ)
    | _ => False)
  | .tableswitch dflt lo hi offs => (match st with
    | .int x :: r => (x.toInt < lo ∨ hi < x.toInt → ax_jp pc dflt (fun t => K t ls r σ)) ∧ (∀ j : Nat, j < (hi - lo + 1).toNat → x.toInt = lo + j → ax_jp pc (offs.getD j 0) (fun t => K t ls r σ))
    | _ => False)
  | .lookupswitch dflt ps => (match st with
    | .int x :: r => (∀ q ∈ ps.toList, x.toInt = q.1 → ax_jp pc q.2 (fun t => K t ls r σ)) ∧ ((∀ q ∈ ps.toList, x.toInt ≠ q.1) → ax_jp pc dflt (fun t => K t ls r σ))
    | _ => False)
  | .getfield x => (match st with
    | .ref a :: r => (match ax_sh a with
      | .inl ci => (match ax_fl M.2.2.2.2.1 x ci with
        | some j => bif ph || Nat.blt a σ.1 then (match ax_kd ci j with
            | 2 => bif ph then K (pc + 3) ls (.ref (ax_rf a j) :: r) σ else (σ.2.1 a j ≠ 0 ∧ K (pc + 3) ls (.ref (ax_rf a j) :: r) σ)
            | _ => K (pc + 3) ls (.int (σ.2.1 a j) :: r) σ) else False
        | none => False)
      | .inr _ => False)
    | _ => False)
  | .putfield x => (match st with
    | .int v :: .ref a :: r => (match ax_sh a with
      | .inl ci => (match ax_fl M.2.2.2.2.1 x ci with
        | some j => bif ph || Nat.blt a σ.1 then (match ax_kd ci j with
            | 0 => K (pc + 3) ls r (ax_sI σ a j v)
            | 1 => (v = 0 ∨ v = 1) ∧ K (pc + 3) ls r (ax_sI σ a j v)
            | _ => False) else False
        | none => False)
      | .inr _ => False)
    | .ref v :: .ref a :: r => (match ax_sh a with
      | .inl ci => (match ax_fl M.2.2.2.2.1 x ci with
        | some j => bif !ph && Nat.blt a σ.1 && Nat.beq v (ax_rf a j) then (match ax_kd ci j with
            | 2 => K (pc + 3) ls r (ax_sI σ a j 1)
            | _ => False) else False
        | none => False)
      | .inr _ => False)
    | _ => False)
  | .arraylength => (match st with
    | .ref a :: r => (match X with
      | some q => bif Nat.beq a 1000 then K (pc + 1) ls (.int (Int32.ofNat q.1) :: r) σ else False
      | none => (match ax_sh a with
        | .inr (t, n) => bif Nat.blt t 3 && (ph || Nat.blt a σ.1) then K (pc + 1) ls (.int (Int32.ofNat n) :: r) σ else False
        | .inl _ => False))
    | _ => False)
  | .iaload => (match st with
    | .int i :: .ref a :: r => (match X with
      | some q => bif Nat.beq a 1000 then (vp_in i q.1 ∧ K (pc + 1) ls (.int (q.2 i.toNatClampNeg) :: r) σ) else False
      | none => (match ax_sh a with
        | .inr (0, n) => bif ph || Nat.blt a σ.1 then (vp_in i n ∧ K (pc + 1) ls (.int (σ.2.1 a i.toNatClampNeg) :: r) σ) else False
        | _ => False))
    | _ => False)
  | .baload => (match st with
    | .int i :: .ref a :: r => (match ax_sh a with
        | .inr (1, n) => bif ph || Nat.blt a σ.1 then (vp_in i n ∧ K (pc + 1) ls (.int (σ.2.1 a i.toNatClampNeg) :: r) σ) else False
        | _ => False)
    | _ => False)
  | .laload => (match st with
    | .int i :: .ref a :: r => (match ax_sh a with
        | .inr (2, n) => bif ph || Nat.blt a σ.1 then (vp_in i n ∧ K (pc + 1) ls (.long (σ.2.2 a i.toNatClampNeg) :: r) σ) else False
        | _ => False)
    | _ => False)
  | .iastore => (match st with
    | .int x :: .int i :: .ref a :: r => (match ax_sh a with
        | .inr (0, n) => bif ph || Nat.blt a σ.1 then (vp_in i n ∧ K (pc + 1) ls r (ax_sI σ a i.toNatClampNeg x)) else False
        | _ => False)
    | _ => False)
  | .bastore => (match st with
    | .int x :: .int i :: .ref a :: r => (match ax_sh a with
        | .inr (1, n) => bif ph || Nat.blt a σ.1 then (vp_in i n ∧ K (pc + 1) ls r (ax_sI σ a i.toNatClampNeg x.toInt8.toInt32)) else False
        | _ => False)
    | _ => False)
  | .lastore => (match st with
    | .long x :: .int i :: .ref a :: r => (match ax_sh a with
        | .inr (2, n) => bif ph || Nat.blt a σ.1 then (vp_in i n ∧ K (pc + 1) ls r (ax_sL σ a i.toNatClampNeg x)) else False
        | _ => False)
    | _ => False)
  | .new x => (match ax_nw M.2.2.2.2.1 x with
    | some ci => (match ax_sh σ.1 with
      | .inl c2 => bif !ph && Nat.beq ci c2 then K (pc + 3) ls (.ref σ.1 :: st) (ax_nc σ) else False
      | .inr _ => False)
    | none => False)
  | .newarray t => (match st with
    | .int n :: r => (match ax_sh σ.1 with
      | .inr (tc, k) => bif !ph && Nat.beq tc (match t with
          | .int => 0
          | .byte => 1
          | .long => 2
          | _ => 7) then (n = nI k ∧ K (pc + 2) ls (.ref σ.1 :: r) (ax_nc σ)) else False
      | .inl _ => False)
    | _ => False)
  | .invokestatic x => (match ax_ca M.2.2.2.2.1 x with
    | some (n, 9, _) => (match st with
      | .int c :: .int dp :: .ref a :: .int sp :: .ref b :: r => (match ax_sh b, ax_sh a with
        | .inr (0, n0), .inr (0, n1) => bif Nat.beq n 5 && (ph || (Nat.blt a σ.1 && Nat.blt b σ.1)) && Nat.ble (r.map Value.category).sum 8 then (¬ sp < 0 ∧ ¬ dp < 0 ∧ ¬ c < 0 ∧ sp.toNatClampNeg + c.toNatClampNeg ≤ n0 ∧ dp.toNatClampNeg + c.toNatClampNeg ≤ n1 ∧ K (pc + 3) ls r (ax_sA σ a (va_cpy (σ.2.1 b) (σ.2.1 a) sp.toNatClampNeg dp.toNatClampNeg c.toNatClampNeg))) else False
        | _, _ => False)
      | _ => False)
    | some (n, k, _, es) => bif Nat.ble 10 k then (match ax_math k st with
      | some st2 => bif Nat.ble ((st2.drop 1).map Value.category).sum 8 then K (pc + 3) ls st2 σ else False
      | none => False) else (match ax_pick 99 es with
      | some ν => bif (Nat.beq k 0 || Nat.beq k 5 || Nat.beq k 7) && Nat.ble n st.length && Nat.ble ((st.drop n).map Value.category).sum 8 then (∃ o : ax_O, E ν (st.take n).reverse σ o ∧ K (pc + 3) ls (o.1.toList ++ st.drop n) o.2) else False
      | none => False)
    | none => False)
  | .invokespecial x => (match ax_ca M.2.2.2.2.1 x with
    | some (_, 8, _) => (match st with
      | .ref _ :: r => bif Nat.ble (r.map Value.category).sum 8 then K (pc + 3) ls r σ else False
      | _ => False)
    | some (n, k, _, es) => (match ax_pick 99 es with
      | some ν => (match st.drop n with
        | .ref a :: r => bif (Nat.blt a 1000 && (Nat.beq k 4 || Nat.beq k 6)) && Nat.ble (r.map Value.category).sum 8 then (∃ o : ax_O, E ν (.ref a :: (st.take n).reverse) σ o ∧ K (pc + 3) ls (o.1.toList ++ r) o.2) else False
        | _ => False)
      | none => False)
    | none => False)
  | .invokevirtual x => (match ax_ca M.2.2.2.2.1 x with
    | some (n, k, _, es) => (match st.drop n with
      | .ref a :: r => (match ax_sh a with
        | .inl ci => (match ax_pick ci es with
          | some ν => bif (ph || Nat.blt a σ.1) && (Nat.beq k 1 || Nat.beq k 2 || Nat.beq k 3) && Nat.ble (r.map Value.category).sum 8 then (∃ o : ax_O, E ν (.ref a :: (st.take n).reverse) σ o ∧ K (pc + 3) ls (o.1.toList ++ r) o.2) else False
          | none => False)
        | .inr _ => False)
      | _ => False)
    | none => False)
  | .ireturn => (match st with
    | [.int v] => (match M.2.2.2.1 with
      | some .int => Rt (some (.int v)) σ
      | some .boolean => (v = 0 ∨ v = 1) ∧ Rt (some (.int v)) σ
      | _ => False)
    | _ => False)
  | .lreturn => (match st with
    | [.long v] => (match M.2.2.2.1 with
      | some .long => Rt (some (.long v)) σ
      | _ => False)
    | _ => False)
  | .return_ => (match st with
    | [] => (match M.2.2.2.1 with
      | none => Rt none σ
      | _ => False)
    | _ => False)
  | _ => False
def ax_run (ph : Bool) (X : ax_X) (E : ax_E) (M : ax_M) : Nat → Nat → ax_L → List Value → ax_S → ax_O → Prop
  | 0, _, _, _, _, _ => False
  | n + 1, pc, ls, st, σ, o => match M.2.2.2.2.2 pc with
    | some q => ax_ins ph X E M q.1 pc ls st σ (fun pc ls st σ => ax_run ph X E M n pc ls st σ o) (fun v σ => o = (v, σ))
    | none => False
def ax_en : List Value → ax_L
  | [] => []
  | v :: vs => bif Nat.beq v.category 2 then some v :: none :: ax_en vs else some v :: ax_en vs
def ax_lc (M : ax_M) (args : List Value) : ax_L := ax_en args ++ List.replicate (M.2.2.1 - (ax_en args).length) none
def ax_ev (ph : Bool) : Nat → ax_E
  | 0 => fun _ _ _ _ => False
  | d + 1 => fun ν args σ o => (ax_en args).length ≤ (ax_md ν).2.2.1 ∧ ∃ n, ax_run ph none (ax_ev ph d) (ax_md ν) n 0 (ax_lc (ax_md ν) args) [] σ o
/-- behind a place of a method, with these locals, stack and store, the answer comes -/
def ax_go (ph : Bool) (X : ax_X) (E : ax_E) (M : ax_M) (pc : Nat) (ls : ax_L) (st : List Value) (σ : ax_S) (o : ax_O) : Prop := ∃ n, ax_run ph X E M n pc ls st σ o
