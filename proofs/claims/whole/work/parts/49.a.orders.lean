/-! pages: orders, and what is pasted in an order -/
def pg_f : Nat → Nat
  | 0 => 1
  | k + 1 => (k + 1) * pg_f k
def pg_bo (left below : Nat) : Nat → Nat → Nat → Nat
  | 0, _, _ => 0
  | f + 1, p, i => if left.testBit i = true then (if p = below then i else pg_bo left below f (p + 1) (i + 1)) else pg_bo left below f p (i + 1)
def pg_px : Nat → Nat → Nat → List Nat
  | 0, _, _ => []
  | k + 1, left, rest => pg_bo left (rest % (k + 1)) 6 0 0 :: pg_px k (x_sub left (2 ^ pg_bo left (rest % (k + 1)) 6 0 0)) (rest / (k + 1))
def pg_fi (q : Nat → Nat) : Nat → Option Nat
  | 0 => none
  | m + 1 => if q m ≤ q (m + 1) then some m else pg_fi q m
def pg_fj (q : Nat → Nat) (x : Nat) : Nat → Nat
  | 0 => 0
  | m + 1 => if x ≤ q m then m else pg_fj q x m
def pg_sw (q : Nat → Nat) (a b : Nat) : Nat → Nat := fun k => if k = b then q a else if k = a then q b else q k
def pg_rv : Nat → (Nat → Nat) → Nat → Nat → Nat → Nat
  | 0, q, _, _ => q
  | f + 1, q, a, b => if b ≤ a then q else pg_rv f (pg_sw q a b) (a + 1) (b - 1)
def pg_nx (n : Nat) (q : Nat → Nat) : Option (Nat → Nat) := match pg_fi q (n - 1) with
  | none => none
  | some i => some (pg_rv 6 (pg_sw q i (pg_fj q (q i) n)) (i + 1) (n - 1))
def pg_q (l : List Nat) : Nat → Nat := fun k => l.getD k 0
def pg_l (n : Nat) (q : Nat → Nat) : List Nat := (List.range n).map q
def pg_nl (n : Nat) (l : List Nat) : Option (List Nat) := match pg_nx n (pg_q l) with
  | none => none
  | some q => some (pg_l n q)
def pg_vis (n : Nat) : Nat → List Nat → List (List Nat)
  | 0, l => [l]
  | f + 1, l => l :: (match pg_nl n l with
    | none => []
    | some l' => pg_vis n f l')
def pg_all (n : Nat) : List (List Nat) := pg_vis n (pg_f n) (List.range n)
def pg_sg : Nat → Nat → Nat
  | 0, _ => 0
  | k + 1, o => (o % (k + 1)) * pg_f k + pg_sg k (o / (k + 1))
def pg_rh : Nat → Nat → Nat
  | 0, _ => 0
  | k + 1, t => t / pg_f k + (k + 1) * pg_rh k (t % pg_f k)
def pg_leq : List Nat → List Nat → Bool
  | [], [] => true
  | a :: l, b :: m => Nat.beq a b && pg_leq l m
  | _, _ => false
theorem pg_leq_eq : ∀ l m, pg_leq l m = true → l = m
  | [], [], _ => rfl
  | a :: l, b :: m, h => by
    rw [pg_leq, Bool.and_eq_true] at h
    rw [Nat.eq_of_beq_eq_true h.1, pg_leq_eq l m h.2]
  | [], _ :: _, h => by cases h
  | _ :: _, [], h => by cases h
def pg_ck1 (n : Nat) (L : List (List Nat)) : Nat → Bool
  | 0 => true
  | o + 1 => Nat.blt (pg_sg n o) (pg_f n) && pg_leq (pg_px n (2 ^ n - 1) o) (L.getD (pg_sg n o) []) && pg_ck1 n L o
def pg_ck2 (n : Nat) : List (List Nat) → Nat → Bool
  | [], _ => true
  | l :: L, t => Nat.blt (pg_rh n t) (pg_f n) && pg_leq (pg_px n (2 ^ n - 1) (pg_rh n t)) l && pg_ck2 n L (t + 1)
def pg_perm (n : Nat) : List Nat → Bool
  | [] => true
  | a :: l => Nat.blt a n && pg_perm n l
def pg_ck3 (n : Nat) : List (List Nat) → Bool
  | [] => true
  | l :: L => Nat.beq l.length n && pg_perm n l && (match L with
    | [] => (pg_nl n l).isNone
    | l' :: _ => (match pg_nl n l with
      | none => false
      | some m => pg_leq m l')) && pg_ck3 n L
def pg_ck (n : Nat) : Bool := Nat.beq (pg_all n).length (pg_f n) && pg_ck1 n (pg_all n) (pg_f n) && pg_ck2 n (pg_all n) 0 && pg_leq (pg_px n (2 ^ n - 1) 0) (List.range n)
theorem pg_c1 : pg_ck 1 = true := by decide +kernel
theorem pg_c2 : pg_ck 2 = true := by decide +kernel
theorem pg_c3 : pg_ck 3 = true := by decide +kernel
theorem pg_c4 : pg_ck 4 = true := by decide +kernel
theorem pg_c5 : pg_ck 5 = true := by decide +kernel
theorem pg_c6 : pg_ck 6 = true := by decide +kernel
theorem pg_c {n : Nat} (h1 : 1 ≤ n) (h : n ≤ 6) : pg_ck n = true := by
  have : n = 1 ∨ n = 2 ∨ n = 3 ∨ n = 4 ∨ n = 5 ∨ n = 6 := by omega
  rcases this with rfl | rfl | rfl | rfl | rfl | rfl
  · exact pg_c1
  · exact pg_c2
  · exact pg_c3
  · exact pg_c4
  · exact pg_c5
  · exact pg_c6
theorem pg_ck1_eq (n : Nat) (L : List (List Nat)) : ∀ m, pg_ck1 n L m = true → ∀ o, o < m → pg_sg n o < pg_f n ∧ pg_px n (2 ^ n - 1) o = L.getD (pg_sg n o) []
  | 0, _, o, ho => absurd ho (Nat.not_lt_zero _)
  | m + 1, h, o, ho => by
    rw [pg_ck1, Bool.and_eq_true, Bool.and_eq_true] at h
    rcases Nat.lt_or_eq_of_le (Nat.lt_succ_iff.mp ho) with q | rfl
    · exact pg_ck1_eq n L m h.2 o q
    · exact ⟨Nat.le_of_ble_eq_true h.1.1, pg_leq_eq _ _ h.1.2⟩
theorem pg_ck2_eq (n : Nat) : ∀ L t, pg_ck2 n L t = true → ∀ l, l ∈ L → ∃ o, o < pg_f n ∧ pg_px n (2 ^ n - 1) o = l
  | [], _, _, l, hl => by cases hl
  | a :: L, t, h, l, hl => by
    rw [pg_ck2, Bool.and_eq_true, Bool.and_eq_true] at h
    rcases List.mem_cons.mp hl with rfl | q
    · exact ⟨pg_rh n t, Nat.le_of_ble_eq_true h.1.1, pg_leq_eq _ _ h.1.2⟩
    · exact pg_ck2_eq n L (t + 1) h.2 l q
