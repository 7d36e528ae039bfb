/-! numbers and bits -/
theorem sh31 : ∀ n, n < 32 → ((nI n &&& 31).toBitVec.smod 32).toNat = n := by decide +kernel
theorem nI_tn {n : Nat} (h : n < 2 ^ 32) : (nI n).toBitVec.toNat = n := pk_tn h
theorem nI_shl {n k : Nat} (hk : k < 32) (h : n * 2 ^ k < 2 ^ 32) : nI n <<< (nI k &&& 31) = nI (n * 2 ^ k) := pk_shlN _ k (sh31 k hk) h
theorem nI_shr {n k : Nat} (hk : k < 32) (h : n < 2 ^ 31) : nI n >>> (nI k &&& 31) = nI (n / 2 ^ k) := pk_shrN h _ k (sh31 k hk)
theorem nI_and (a b : Nat) : nI a &&& nI b = nI (a &&& b) := by
  apply Int32.toBitVec_inj.mp
  show BitVec.ofNat 32 a &&& BitVec.ofNat 32 b = BitVec.ofNat 32 (a &&& b)
  exact (BitVec.ofNat_and).symm
theorem nI_or (a b : Nat) : nI a ||| nI b = nI (a ||| b) := by
  apply Int32.toBitVec_inj.mp
  show BitVec.ofNat 32 a ||| BitVec.ofNat 32 b = BitVec.ofNat 32 (a ||| b)
  exact (BitVec.ofNat_or).symm
theorem nI_xor (a b : Nat) : nI a ^^^ nI b = nI (a ^^^ b) := by
  apply Int32.toBitVec_inj.mp
  show BitVec.ofNat 32 a ^^^ BitVec.ofNat 32 b = BitVec.ofNat 32 (a ^^^ b)
  exact (BitVec.ofNat_xor).symm
theorem nI_and1 (a : Nat) : nI a &&& nI 1 = nI (a % 2) := by rw [nI_and, Nat.and_one_is_mod]
/-- the bit j of t, as the code asks for it -/
theorem nI_bit {t j : Nat} (hj : j < 31) (ht : t < 2 ^ 31) : (nI t >>> (nI j &&& 31)) &&& nI 1 = bI (t.testBit j) := by
  rw [nI_shr (by omega) ht, nI_and1, Nat.testBit_eq_decide_div_mod_eq]
  rcases Nat.mod_two_eq_zero_or_one (t / 2 ^ j) with h | h
  · rw [h]; rfl
  · rw [h]; rfl
theorem bI_eq0 (b : Bool) : bI b = 0 ↔ b = false := by cases b <;> decide
theorem bI_ne0 (b : Bool) : bI b ≠ 0 ↔ b = true := by cases b <;> decide
theorem nI_lt0 {n : Nat} (h : n < 2 ^ 31) : ¬ nI n < 0 := nI_pos h
theorem x_cases (x : Int32) {n : Nat} (hn : n < 2 ^ 31) : x < 0 ∨ nI n ≤ x ∨ ∃ j : Nat, j < n ∧ x = nI j := pk_ix x hn
theorem Int32_lt_trans {a b c : Int32} (h : a < b) (h2 : b ≤ c) : a < c := by
  rw [Int32.lt_iff_toInt_lt] at *
  rw [Int32.le_iff_toInt_le] at h2
  omega
theorem Int32_not_lt {a b : Int32} : ¬ a < b ↔ b ≤ a := by
  rw [Int32.lt_iff_toInt_lt, Int32.le_iff_toInt_le]; omega
theorem Int32_not_le {a b : Int32} : ¬ a ≤ b ↔ b < a := by
  rw [Int32.lt_iff_toInt_lt, Int32.le_iff_toInt_le]; omega
theorem mT_eq {x y : Int32} {r : Bool} : mTest .eq x y = r ↔ decide (x = y) = r := Iff.rfl
theorem mT_ne {x y : Int32} {r : Bool} : mTest .ne x y = r ↔ decide (x ≠ y) = r := Iff.rfl
theorem mT_lt {x y : Int32} {r : Bool} : mTest .lt x y = r ↔ decide (x < y) = r := Iff.rfl
theorem mT_ge {x y : Int32} {r : Bool} : mTest .ge x y = r ↔ decide (y ≤ x) = r := Iff.rfl
theorem mT_gt {x y : Int32} {r : Bool} : mTest .gt x y = r ↔ decide (y < x) = r := Iff.rfl
theorem mT_le {x y : Int32} {r : Bool} : mTest .le x y = r ↔ decide (x ≤ y) = r := Iff.rfl
/-! branches whose outcome is known, or split by a proposition of one's own -/
section MBr
variable {d mt pc t len b : Nat} {z : Int} {ls st : List Value} {M : mM} {Q : (Option Value ⊕ Nat) → mM → Prop} {c : ClassFile.Cond} {off : Int} {x y : Int32}
theorem mP_ifT (hr : mIns mt pc = some (.ifCond c off, len, t, b, z)) (h : mTest c x 0 = true) (k : mP d mt t ls st M Q) : mP d mt pc ls (.int x :: st) M Q := mP_if hr (fun _ => k) (fun q => by rw [h] at q; cases q)
theorem mP_ifF (hr : mIns mt pc = some (.ifCond c off, len, t, b, z)) (h : mTest c x 0 = false) (k : mP d mt (pc + 3) ls st M Q) : mP d mt pc ls (.int x :: st) M Q := mP_if hr (fun q => by rw [h] at q; cases q) (fun _ => k)
theorem mP_cmpT (hr : mIns mt pc = some (.if_icmp c off, len, t, b, z)) (h : mTest c x y = true) (k : mP d mt t ls st M Q) : mP d mt pc ls (.int y :: .int x :: st) M Q := mP_cmp hr (fun _ => k) (fun q => by rw [h] at q; cases q)
theorem mP_cmpF (hr : mIns mt pc = some (.if_icmp c off, len, t, b, z)) (h : mTest c x y = false) (k : mP d mt (pc + 3) ls st M Q) : mP d mt pc ls (.int y :: .int x :: st) M Q := mP_cmp hr (fun q => by rw [h] at q; cases q) (fun _ => k)
end MBr
theorem countP_add {p q : Nat → Bool} {a : Nat} (hq : ∀ j, q j = (p j || decide (j = a))) (hp : p a = false) : ∀ n, a < n → (List.range n).countP q = (List.range n).countP p + 1 := by
  intro n
  induction n with
  | zero => intro h; omega
  | succ n ih =>
    intro h
    rw [List.range_succ, List.countP_append, List.countP_append]
    by_cases ha : a = n
    · subst ha
      have : (List.range a).countP q = (List.range a).countP p := by
        apply List.countP_congr
        intro j hj
        have hj := List.mem_range.mp hj
        rw [hq j]
        simp [show ¬ j = a by omega]
      rw [this]
      simp [List.countP_cons, hq, hp]
    · rw [ih (by omega)]
      have : q n = p n := by rw [hq n]; simp [show ¬ n = a by omega]
      simp only [List.countP_cons, List.countP_nil, this]
      omega
theorem nI_pow {k : Nat} (hk : k < 31) : nI 1 <<< (nI k &&& 31) = nI (2 ^ k) := by
  have h : 2 ^ k < 2 ^ 32 := Nat.pow_lt_pow_right (by decide) (by omega)
  rw [nI_shl (by omega) (by rw [Nat.one_mul]; exact h), Nat.one_mul]
theorem nI_inc (n : Nat) : nI n + iI 1 = nI (n + 1) := nI_1 n
