/-! sets of persons and columns as whole numbers; bitCount -/
theorem x_or (a b : Nat) : nI a ||| nI b = nI (a ||| b) := by
  apply Int32.toBitVec_inj.1
  show BitVec.ofNat 32 a ||| BitVec.ofNat 32 b = BitVec.ofNat 32 (a ||| b)
  apply BitVec.eq_of_getLsbD_eq
  intro i hi
  simp [hi]
theorem x_bt (n i : Nat) (hi : i < 32) : bt (nI n) i = n.testBit i := by
  show (BitVec.ofNat 32 n).getLsbD i = _
  rw [BitVec.getLsbD_ofNat]
  simp [hi]
theorem x_shl : ∀ k, k < 31 → (1 : Int32) <<< (nI k &&& 31) = nI (2 ^ k) := by decide +kernel
theorem x_shr {n k : Nat} (hn : n < 2147483648) (hk : k < 32) : nI n >>> (nI k &&& 31) = nI (n >>> k) := by
  rw [pk_shrN (by omega) _ k (s_l k hk), Nat.shiftRight_eq_div_pow]
theorem x_b1 (n k : Nat) : (n >>> k) &&& 1 = if n.testBit k = true then 1 else 0 := by
  rw [Nat.testBit, Nat.and_comm]
  have : 1 &&& n >>> k < 2 := by
    rw [Nat.and_comm, Nat.and_one_is_mod]
    omega
  by_cases h : 1 &&& n >>> k = 0
  · rw [h]; rfl
  · rw [show 1 &&& n >>> k = 1 by omega]; rfl
theorem x_bit {n k : Nat} (hn : n < 2147483648) (hk : k < 32) : (nI n >>> (nI k &&& 31)) &&& 1 = if n.testBit k = true then 1 else 0 := by
  rw [x_shr hn hk, show (1 : Int32) = nI 1 from rfl, nx_and, x_b1]
  split <;> rfl
theorem x_has {n k : Nat} (hn : n < 2147483648) (hk : k < 32) : ((nI n >>> (nI k &&& 31)) &&& 1 = 1) = (n.testBit k = true) := by
  rw [x_bit hn hk]
  by_cases h : n.testBit k = true <;> simp [h]
theorem x_lt {n m : Nat} (h : n < 2 ^ m) {i : Nat} (hi : m ≤ i) : n.testBit i = false := Nat.testBit_lt_two_pow (Nat.lt_of_lt_of_le h (Nat.pow_le_pow_right (by omega) hi))
def x_sub (a b : Nat) : Nat := a &&& (65535 ^^^ b)
theorem x_tsub {a : Nat} (ha : a < 65536) (b i : Nat) : (x_sub a b).testBit i = (a.testBit i && !b.testBit i) := by
  unfold x_sub
  rw [Nat.testBit_and, Nat.testBit_xor]
  by_cases hi : i < 16
  · rw [show (65535 : Nat) = 2 ^ 16 - 1 from rfl, Nat.testBit_two_pow_sub_one]
    simp [hi]
  · rw [x_lt (m := 16) ha (by omega)]
    simp
theorem x_sublt {a : Nat} (ha : a < 65536) (b : Nat) : x_sub a b < 65536 := Nat.lt_of_le_of_lt Nat.and_le_left ha
theorem x_not {a b : Nat} (ha : a < 65536) : nI a &&& (nI b ^^^ (-1)) = nI (x_sub a b) := by
  apply b_ext
  intro i hi
  rw [b_and, b_xor, b_m1 i hi, x_bt _ i hi, x_bt _ i hi, x_bt _ i hi, x_tsub ha]
  simp
theorem x_ext {a b : Nat} (ha : a < 65536) (hb : b < 65536) (h : ∀ i, i < 16 → a.testBit i = b.testBit i) : a = b := by
  apply Nat.eq_of_testBit_eq
  intro i
  by_cases hi : i < 16
  · exact h i hi
  · rw [x_lt (m := 16) ha (by omega), x_lt (m := 16) hb (by omega)]
theorem x_orlt {a b : Nat} (ha : a < 65536) (hb : b < 65536) : a ||| b < 65536 := Nat.or_lt_two_pow (n := 16) ha hb
theorem x_plt {k : Nat} (hk : k < 16) : 2 ^ k < 65536 := Nat.lt_of_le_of_lt (Nat.pow_le_pow_right (by omega) (show k ≤ 15 by omega)) (by decide)
theorem x_pow (k i : Nat) : (2 ^ k).testBit i = decide (k = i) := by
  first | rw [Nat.testBit_two_pow] | simp [Nat.testBit_two_pow]
/-! bitCount -/
def x_pop (n : Nat) : Nat := fb_ct (fun k => n.testBit k) 16
def x_j1 (n : Nat) : Nat := n - ((n / 2) &&& 1431655765)
def x_j2 (n : Nat) : Nat := (n &&& 858993459) + ((n / 4) &&& 858993459)
def x_j3 (n : Nat) : Nat := (n + n / 16) &&& 252645135
def x_j4 (n : Nat) : Nat := n + n / 256
def x_j5 (n : Nat) : Nat := (n + n / 65536) &&& 63
def x_jn (n : Nat) : Nat := x_j5 (x_j4 (x_j3 (x_j2 (x_j1 n))))
theorem x_us {n k : Nat} (hn : n < 4294967296) (hk : k < 32) (y : Int32) (hy : y = nI k) : ((nI n).toUInt32 >>> (y.toUInt32 &&& Int32.toUInt32 31)).toInt32 = nI (n / 2 ^ k) := by
  subst hy
  exact pk_ushrN (by omega) _ k (s_u k hk)
def x_p2 (n : Nat) : Nat := n % 2 + n / 2 % 2 + n / 4 % 2 + n / 8 % 2 + n / 16 % 2 + n / 32 % 2 + n / 64 % 2 + n / 128 % 2 + n / 256 % 2 + n / 512 % 2 + n / 1024 % 2 + n / 2048 % 2 + n / 4096 % 2 + n / 8192 % 2 + n / 16384 % 2 + n / 32768 % 2
theorem x_tbm (n k : Nat) : (if n.testBit k = true then 1 else 0) = n / 2 ^ k % 2 := by
  rw [Nat.testBit_eq_decide_div_mod_eq]
  by_cases h : n / 2 ^ k % 2 = 1
  · simp [h]
  · simp [h]
    omega
theorem x_pop2 (n : Nat) : x_pop n = x_p2 n := by
  unfold x_pop
  simp only [fb_ct, x_tbm, Nat.reducePow, Nat.div_one, Nat.zero_add]
  rfl
def x_ck (lo : Nat) : Nat → Bool
  | 0 => true
  | n + 1 => Nat.beq (x_jn (lo + n)) (x_p2 (lo + n)) && x_ck lo n
theorem x_cks (lo : Nat) : ∀ m, x_ck lo m = true → ∀ n, lo ≤ n → n < lo + m → x_jn n = x_pop n
  | 0, _, n, h1, h2 => by omega
  | m + 1, h, n, h1, h2 => by
    rw [x_ck, Bool.and_eq_true] at h
    by_cases e : n = lo + m
    · subst e
      rw [x_pop2]
      exact Nat.eq_of_beq_eq_true h.1
    · exact x_cks lo m h.2 n h1 (by omega)
theorem x_k0 : x_ck 0 2048 = true := by decide +kernel
theorem x_k1 : x_ck 2048 2048 = true := by decide +kernel
theorem x_k2 : x_ck 4096 2048 = true := by decide +kernel
theorem x_k3 : x_ck 6144 2048 = true := by decide +kernel
theorem x_k4 : x_ck 8192 2048 = true := by decide +kernel
theorem x_k5 : x_ck 10240 2048 = true := by decide +kernel
theorem x_k6 : x_ck 12288 2048 = true := by decide +kernel
theorem x_k7 : x_ck 14336 2048 = true := by decide +kernel
theorem x_k8 : x_ck 16384 2048 = true := by decide +kernel
theorem x_k9 : x_ck 18432 2048 = true := by decide +kernel
theorem x_k10 : x_ck 20480 2048 = true := by decide +kernel
theorem x_k11 : x_ck 22528 2048 = true := by decide +kernel
theorem x_k12 : x_ck 24576 2048 = true := by decide +kernel
theorem x_k13 : x_ck 26624 2048 = true := by decide +kernel
theorem x_k14 : x_ck 28672 2048 = true := by decide +kernel
theorem x_k15 : x_ck 30720 2048 = true := by decide +kernel
theorem x_k16 : x_ck 32768 2048 = true := by decide +kernel
theorem x_k17 : x_ck 34816 2048 = true := by decide +kernel
theorem x_k18 : x_ck 36864 2048 = true := by decide +kernel
theorem x_k19 : x_ck 38912 2048 = true := by decide +kernel
theorem x_k20 : x_ck 40960 2048 = true := by decide +kernel
theorem x_k21 : x_ck 43008 2048 = true := by decide +kernel
theorem x_k22 : x_ck 45056 2048 = true := by decide +kernel
theorem x_k23 : x_ck 47104 2048 = true := by decide +kernel
theorem x_k24 : x_ck 49152 2048 = true := by decide +kernel
theorem x_k25 : x_ck 51200 2048 = true := by decide +kernel
theorem x_k26 : x_ck 53248 2048 = true := by decide +kernel
theorem x_k27 : x_ck 55296 2048 = true := by decide +kernel
theorem x_k28 : x_ck 57344 2048 = true := by decide +kernel
theorem x_k29 : x_ck 59392 2048 = true := by decide +kernel
theorem x_k30 : x_ck 61440 2048 = true := by decide +kernel
theorem x_k31 : x_ck 63488 2048 = true := by decide +kernel
theorem x_jpop (n : Nat) (hn : n < 65536) : x_jn n = x_pop n := by
  by_cases h0 : n < 2048
  · exact x_cks 0 2048 x_k0 n (by omega) (by omega)
  by_cases h1 : n < 4096
  · exact x_cks 2048 2048 x_k1 n (by omega) (by omega)
  by_cases h2 : n < 6144
  · exact x_cks 4096 2048 x_k2 n (by omega) (by omega)
  by_cases h3 : n < 8192
  · exact x_cks 6144 2048 x_k3 n (by omega) (by omega)
  by_cases h4 : n < 10240
  · exact x_cks 8192 2048 x_k4 n (by omega) (by omega)
  by_cases h5 : n < 12288
  · exact x_cks 10240 2048 x_k5 n (by omega) (by omega)
  by_cases h6 : n < 14336
  · exact x_cks 12288 2048 x_k6 n (by omega) (by omega)
  by_cases h7 : n < 16384
  · exact x_cks 14336 2048 x_k7 n (by omega) (by omega)
  by_cases h8 : n < 18432
  · exact x_cks 16384 2048 x_k8 n (by omega) (by omega)
  by_cases h9 : n < 20480
  · exact x_cks 18432 2048 x_k9 n (by omega) (by omega)
  by_cases h10 : n < 22528
  · exact x_cks 20480 2048 x_k10 n (by omega) (by omega)
  by_cases h11 : n < 24576
  · exact x_cks 22528 2048 x_k11 n (by omega) (by omega)
  by_cases h12 : n < 26624
  · exact x_cks 24576 2048 x_k12 n (by omega) (by omega)
  by_cases h13 : n < 28672
  · exact x_cks 26624 2048 x_k13 n (by omega) (by omega)
  by_cases h14 : n < 30720
  · exact x_cks 28672 2048 x_k14 n (by omega) (by omega)
  by_cases h15 : n < 32768
  · exact x_cks 30720 2048 x_k15 n (by omega) (by omega)
  by_cases h16 : n < 34816
  · exact x_cks 32768 2048 x_k16 n (by omega) (by omega)
  by_cases h17 : n < 36864
  · exact x_cks 34816 2048 x_k17 n (by omega) (by omega)
  by_cases h18 : n < 38912
  · exact x_cks 36864 2048 x_k18 n (by omega) (by omega)
  by_cases h19 : n < 40960
  · exact x_cks 38912 2048 x_k19 n (by omega) (by omega)
  by_cases h20 : n < 43008
  · exact x_cks 40960 2048 x_k20 n (by omega) (by omega)
  by_cases h21 : n < 45056
  · exact x_cks 43008 2048 x_k21 n (by omega) (by omega)
  by_cases h22 : n < 47104
  · exact x_cks 45056 2048 x_k22 n (by omega) (by omega)
  by_cases h23 : n < 49152
  · exact x_cks 47104 2048 x_k23 n (by omega) (by omega)
  by_cases h24 : n < 51200
  · exact x_cks 49152 2048 x_k24 n (by omega) (by omega)
  by_cases h25 : n < 53248
  · exact x_cks 51200 2048 x_k25 n (by omega) (by omega)
  by_cases h26 : n < 55296
  · exact x_cks 53248 2048 x_k26 n (by omega) (by omega)
  by_cases h27 : n < 57344
  · exact x_cks 55296 2048 x_k27 n (by omega) (by omega)
  by_cases h28 : n < 59392
  · exact x_cks 57344 2048 x_k28 n (by omega) (by omega)
  by_cases h29 : n < 61440
  · exact x_cks 59392 2048 x_k29 n (by omega) (by omega)
  by_cases h30 : n < 63488
  · exact x_cks 61440 2048 x_k30 n (by omega) (by omega)
  exact x_cks 63488 2048 x_k31 n (by omega) (by omega)
theorem x_bc {n : Nat} (hn : n < 65536) (s : ax_S) : J_bitCount (nI n) s = nI (x_pop n) := by
  have h1 : nI n - (((nI n).toUInt32 >>> (((1 : Int32)).toUInt32 &&& Int32.toUInt32 31)).toInt32 &&& (1431655765 : Int32)) = nI (x_j1 n) := by
    rw [x_us (by omega) (show 1 < 32 by omega) 1 rfl, show (1431655765 : Int32) = nI 1431655765 from rfl, nx_and, z_sub (Nat.le_trans Nat.and_le_left (Nat.div_le_self _ _))]
    rfl
  have b1 : x_j1 n < 65536 := Nat.lt_of_le_of_lt (Nat.sub_le _ _) hn
  have h2 : (nI (x_j1 n) &&& (858993459 : Int32)) + (((nI (x_j1 n)).toUInt32 >>> (((2 : Int32)).toUInt32 &&& Int32.toUInt32 31)).toInt32 &&& (858993459 : Int32)) = nI (x_j2 (x_j1 n)) := by
    rw [x_us (by omega) (show 2 < 32 by omega) 2 rfl, show (858993459 : Int32) = nI 858993459 from rfl, nx_and, nx_and, nI_add]
    rfl
  have b2 : x_j2 (x_j1 n) < 131072 := by
    have e1 : x_j1 n &&& 858993459 ≤ x_j1 n := Nat.and_le_left
    have e2 : x_j1 n / 4 &&& 858993459 ≤ x_j1 n / 4 := Nat.and_le_left
    unfold x_j2
    omega
  have h3 : (nI (x_j2 (x_j1 n)) + ((nI (x_j2 (x_j1 n))).toUInt32 >>> (((4 : Int32)).toUInt32 &&& Int32.toUInt32 31)).toInt32) &&& (252645135 : Int32) = nI (x_j3 (x_j2 (x_j1 n))) := by
    rw [x_us (by omega) (show 4 < 32 by omega) 4 rfl, show (252645135 : Int32) = nI 252645135 from rfl, nI_add, nx_and]
    rfl
  have b3 : x_j3 (x_j2 (x_j1 n)) < 262144 := by
    have e1 : (x_j2 (x_j1 n) + x_j2 (x_j1 n) / 16) &&& 252645135 ≤ x_j2 (x_j1 n) + x_j2 (x_j1 n) / 16 := Nat.and_le_left
    unfold x_j3
    omega
  have h4 : nI (x_j3 (x_j2 (x_j1 n))) + ((nI (x_j3 (x_j2 (x_j1 n)))).toUInt32 >>> (((8 : Int32)).toUInt32 &&& Int32.toUInt32 31)).toInt32 = nI (x_j4 (x_j3 (x_j2 (x_j1 n)))) := by
    rw [x_us (by omega) (show 8 < 32 by omega) 8 rfl, nI_add]
    rfl
  have b4 : x_j4 (x_j3 (x_j2 (x_j1 n))) < 524288 := by
    unfold x_j4
    omega
  have h5 : (nI (x_j4 (x_j3 (x_j2 (x_j1 n)))) + ((nI (x_j4 (x_j3 (x_j2 (x_j1 n))))).toUInt32 >>> (((16 : Int32)).toUInt32 &&& Int32.toUInt32 31)).toInt32) &&& (63 : Int32) = nI (x_j5 (x_j4 (x_j3 (x_j2 (x_j1 n))))) := by
    rw [x_us (by omega) (show 16 < 32 by omega) 16 rfl, show (63 : Int32) = nI 63 from rfl, nI_add, nx_and]
    rfl
  unfold J_bitCount
  rw [h1, h2, h3, h4, h5]
  rw [← x_jpop n hn]
  rfl
theorem M_bits_st (n : Nat) (hn : n < 65536) (s : ax_S) (m k : Nat) (hk : k < 16) (a : Int32) : M_bits_l4 (m + 1) (nI n) a (nI k) s = M_bits_l4 m (nI n) (a + (if n.testBit k = true then 1 else 0)) (nI (k + 1)) s := by
  rw [M_bits_l4]
  simp (disch := omega) only [q_16, z_le, z_nle, z_1, if_false]
  rw [x_bit (by omega) (by omega)]
theorem M_bits_eq {n : Nat} (hn : n < 65536) (s : ax_S) : M_bits (nI n) s = some (nI (x_pop n)) := by
  unfold M_bits
  obtain ⟨b, h1, h2⟩ := z_for (fun m k a => M_bits_l4 m (nI n) a (nI k) s) 16 (fun k a => a = nI (fb_ct (fun k => n.testBit k) k)) (fun b => b = nI (x_pop n)) (fun m a ha => ⟨a, by rw [M_bits_l4]; exact if_pos (by decide), ha⟩) (fun m k a hk ha => Or.inr ⟨_, M_bits_st n hn s m k hk a, by
    rw [ha, fb_ct_succ]
    split
    · exact nI_1 _
    · exact Int32.add_zero _⟩) 70000 0 0 (by omega) rfl (by omega)
  have h1 : M_bits_l4 70000 (nI n) 0 0 s = some b := h1
  rw [h1, h2]
/-! a joined row as a whole number -/
theorem z_orN {g : Nat → Int32} {b : Nat → Nat} : ∀ n, (∀ i, i < n → b i < 65536 ∧ g i = nI (b i)) → ∃ m, m < 65536 ∧ z_or g n = nI m ∧ ∀ k, m.testBit k = true ↔ ∃ i, i < n ∧ (b i).testBit k = true
  | 0, _ => ⟨0, by omega, rfl, fun k => by simp⟩
  | n + 1, h => by
    obtain ⟨m, h1, h2, h3⟩ := z_orN (g := g) (b := b) n fun i hi => h i (by omega)
    obtain ⟨h4, h5⟩ := h n (by omega)
    refine ⟨m ||| b n, x_orlt h1 h4, by show z_or g n ||| g n = _; rw [h2, h5, x_or], fun k => ?_⟩
    rw [Nat.testBit_or, Bool.or_eq_true, h3]
    constructor
    · rintro (⟨i, hi, e⟩ | e)
      · exact ⟨i, by omega, e⟩
      · exact ⟨n, by omega, e⟩
    · rintro ⟨i, hi, e⟩
      rcases Nat.lt_or_eq_of_le (Nat.lt_succ_iff.mp hi) with h6 | rfl
      · exact Or.inl ⟨i, h6, e⟩
      · exact Or.inr e
