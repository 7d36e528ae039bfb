/-! longs as numbers -/
theorem lI_n (n : Nat) : lI (n : Int) = Int64.ofNat n := Int64.ofInt_eq_ofNat
theorem lI_or (a b : Nat) : lI a ||| lI b = lI ((a ||| b : Nat) : Int) := by
  rw [lI_n, lI_n, lI_n]
  apply Int64.toBitVec_inj.mp
  show BitVec.ofNat 64 a ||| BitVec.ofNat 64 b = BitVec.ofNat 64 (a ||| b)
  exact (BitVec.ofNat_or).symm
theorem lI_and (a b : Nat) : lI a &&& lI b = lI ((a &&& b : Nat) : Int) := by
  rw [lI_n, lI_n, lI_n]
  apply Int64.toBitVec_inj.mp
  show BitVec.ofNat 64 a &&& BitVec.ofNat 64 b = BitVec.ofNat 64 (a &&& b)
  exact (BitVec.ofNat_and).symm
theorem lI_shr {n k : Nat} {s : Int64} (hs : (s.toBitVec.smod 64).toNat = k) (hn : n < 2 ^ 63) : lI n >>> s = lI ((n / 2 ^ k : Nat) : Int) := by
  rw [lI_n, lI_n]
  apply Int64.toBitVec_inj.mp
  show (BitVec.ofNat 64 n).sshiftRight' (s.toBitVec.smod 64) = BitVec.ofNat 64 (n / 2 ^ k)
  rw [BitVec.sshiftRight', hs]
  have hm : (BitVec.ofNat 64 n).msb = false := by
    rw [BitVec.msb_eq_false_iff_two_mul_lt, BitVec.toNat_ofNat]
    omega
  apply BitVec.eq_of_toNat_eq
  rw [BitVec.sshiftRight_eq_of_msb_false hm, BitVec.toNat_ushiftRight, BitVec.toNat_ofNat, BitVec.toNat_ofNat, Nat.shiftRight_eq_div_pow, Nat.mod_eq_of_lt (by omega), Nat.mod_eq_of_lt (Nat.lt_of_le_of_lt (Nat.div_le_self _ _) (by omega))]
theorem lI_shl {n k : Nat} {s : Int64} (hs : (s.toBitVec.smod 64).toNat = k) : lI n <<< s = lI ((n * 2 ^ k : Nat) : Int) := by
  rw [lI_n, lI_n]
  apply Int64.toBitVec_inj.mp
  show (BitVec.ofNat 64 n) <<< (s.toBitVec.smod 64) = BitVec.ofNat 64 (n * 2 ^ k)
  apply BitVec.eq_of_toNat_eq
  rw [BitVec.shiftLeft_eq', hs, BitVec.toNat_shiftLeft, BitVec.toNat_ofNat, BitVec.toNat_ofNat, Nat.shiftLeft_eq, Nat.mod_mul_mod]
theorem sh10 : (((iI 10).toInt64 &&& 63).toBitVec.smod 64).toNat = 10 := by decide +kernel
theorem sh20 : (((iI 20).toInt64 &&& 63).toBitVec.smod 64).toNat = 20 := by decide +kernel
theorem lI_j10 {a b : Nat} (hb : b < 1024) : (lI a <<< ((iI 10).toInt64 &&& 63)) ||| lI b = lI ((a * 1024 + b : Nat) : Int) := by
  rw [lI_shl sh10, lI_or]
  congr 2
  have := Nat.shiftLeft_add_eq_or_of_lt (i := 10) (b := b) hb a
  rw [Nat.shiftLeft_eq] at this
  exact this.symm
theorem lI_m10 (a : Nat) : lI a &&& lI 1023 = lI ((a % 1024 : Nat) : Int) := by
  rw [show (1023 : Int) = ((1023 : Nat) : Int) from rfl, lI_and, show (1023 : Nat) = 2 ^ 10 - 1 from rfl, Nat.and_two_pow_sub_one_eq_mod]
theorem nI_lI (n : Nat) (h : n < 2 ^ 31) : (nI n).toInt64 = lI n := by
  apply Int64.toInt_inj.mp
  rw [Int32.toInt_toInt64]
  rw [nI_toInt h, lI_toInt (by omega) (by omega)]
theorem iI_l {n : Int} (h : -2147483648 ≤ n) (h2 : n < 2147483648) : (iI n).toInt64 = lI n := by
  apply Int64.toInt_inj.mp
  rw [Int32.toInt_toInt64]
  rw [iI_toInt h h2, lI_toInt (by omega) (by omega)]
theorem lI_i (n : Nat) : (lI n).toInt32 = nI n := by
  rw [lI_n]
  exact Int64.toInt32_ofNat
theorem lI_add (a b : Int) : lI a + lI b = lI (a + b) := (Int64.ofInt_add a b).symm
theorem lI_sub (a b : Int) : lI a - lI b = lI (a - b) := (Int64.ofInt_sub a b).symm
theorem lI_mul (a b : Int) : lI a * lI b = lI (a * b) := (Int64.ofInt_mul a b).symm
theorem lI_div {a b : Nat} (ha : a < 2 ^ 63) (hb : 0 < b) (hb2 : b < 2 ^ 63) : lI a / lI b = lI ((a / b : Nat) : Int) := by
  have h : a / b ≤ a := Nat.div_le_self a b
  have e : ((a / b : Nat) : Int) = (a : Int) / (b : Int) := rfl
  have ea : (lI (a : Int)).toInt = a := lI_toInt (by omega) (by omega)
  have eb : (lI (b : Int)).toInt = b := lI_toInt (by omega) (by omega)
  apply Int64.toInt_inj.mp
  rw [lg_ldiv_nonneg (by rw [ea]; omega) (by rw [eb]; omega), ea, eb, ← e]
  generalize a / b = q at h ⊢
  rw [lI_toInt (by omega) (by omega)]
theorem lI_rem {a b : Nat} (ha : a < 2 ^ 63) (hb : 0 < b) (hb2 : b < 2 ^ 63) : lI a - lI a / lI b * lI b = lI ((a % b : Nat) : Int) := by
  rw [lI_div ha hb hb2, lI_mul, lI_sub]
  congr 1
  have := Nat.div_add_mod a b
  rw [Nat.mul_comm] at this
  have e : ((a / b : Nat) : Int) * (b : Int) = ((a / b * b : Nat) : Int) := by rw [Int.natCast_mul]
  rw [e]
  omega
