/-! BITS: how many, and the lowest -/
def b1 (x : Nat) : Nat := x - ((x / 2) &&& 1431655765)
def b2 (x : Nat) : Nat := (x &&& 858993459) + ((x / 4) &&& 858993459)
def b3 (x : Nat) : Nat := (x + x / 16) &&& 252645135
def b4 (x : Nat) : Nat := x + x / 256
def b5 (x : Nat) : Nat := x + x / 65536
def b6 (x : Nat) : Nat := x &&& 63
def pcB : Nat → Nat → Nat
  | 0, _ => 0
  | k + 1, x => x % 2 + pcB k (x / 2)
def ntzF : Nat → Nat → Nat
  | 0, _ => 0
  | k + 1, x => if x % 2 = 1 then 0 else 1 + ntzF k (x / 2)
def ntz (x : Nat) : Nat := ntzF 16 x
/-- a walk over all numbers of k more bits, x the upper ones, c how many of them -/
def allC (p : Nat → Nat → Bool) : Nat → Nat → Nat → Bool
  | 0, x, c => p x c
  | k + 1, x, c => allC p k (Nat.mul 2 x) c && allC p k (Nat.succ (Nat.mul 2 x)) (Nat.succ c)
theorem pcB_zero : ∀ k, pcB k 0 = 0 := by
  intro k
  induction k with
  | zero => rfl
  | succ k ih => rw [pcB]; exact (Nat.zero_add _).trans ih
theorem pcB_up {x : Nat} : ∀ k, x < 2 ^ k → pcB (k + 1) x = pcB k x := by
  intro k
  induction k generalizing x with
  | zero => intro h; have : x = 0 := by omega
            subst this; rfl
  | succ k ih =>
    intro h
    have e : pcB (k + 1 + 1) x = x % 2 + pcB (k + 1) (x / 2) := rfl
    rw [e, ih (x := x / 2) (by rw [Nat.pow_succ] at h; omega)]
    rfl
theorem allC_ok {p : Nat → Nat → Bool} : ∀ k m x c, allC p k x c = true → x < 2 ^ m → c = pcB m x → ∀ y, x * 2 ^ k ≤ y → y < (x + 1) * 2 ^ k → p y (pcB (m + k) y) = true := by
  intro k
  induction k with
  | zero =>
    intro m x c h hx hc y h1 h2
    have : y = x := by omega
    subst this
    subst hc
    exact h
  | succ k ih =>
    intro m x c h hx hc y h1 h2
    simp only [allC, Bool.and_eq_true] at h
    rw [Nat.pow_succ] at h1 h2
    have e0 : pcB (m + 1) (2 * x) = c := by
      show (2 * x) % 2 + pcB m ((2 * x) / 2) = c
      rw [show (2 * x) % 2 = 0 by omega, show (2 * x) / 2 = x by omega, hc, Nat.zero_add]
    have e1 : pcB (m + 1) (2 * x + 1) = c + 1 := by
      show (2 * x + 1) % 2 + pcB m ((2 * x + 1) / 2) = c + 1
      rw [show (2 * x + 1) % 2 = 1 by omega, show (2 * x + 1) / 2 = x by omega, hc, Nat.add_comm]
    have e3 : m + (k + 1) = (m + 1) + k := by omega
    rw [e3]
    by_cases cc : y < (2 * x + 1) * 2 ^ k
    · refine ih (m + 1) (2 * x) c h.1 (by rw [Nat.pow_succ]; omega) e0.symm y ?_ cc
      have e : 2 * x * 2 ^ k = x * (2 ^ k * 2) := by rw [Nat.mul_comm (2 ^ k) 2, ← Nat.mul_assoc, Nat.mul_comm x 2]
      omega
    · refine ih (m + 1) (2 * x + 1) (c + 1) h.2 (by rw [Nat.pow_succ]; omega) e1.symm y (by omega) ?_
      have e : (2 * x + 1 + 1) * 2 ^ k = (x + 1) * (2 ^ k * 2) := by
        rw [Nat.mul_comm (2 ^ k) 2, ← Nat.mul_assoc]
        congr 1
        omega
      omega
def c6 (x : Nat) : Nat := Nat.land x 63
def c5 (x : Nat) : Nat := c6 (Nat.add x (Nat.div x 65536))
def c4 (x : Nat) : Nat := c5 (Nat.add x (Nat.div x 256))
def c3 (x : Nat) : Nat := c4 (Nat.land (Nat.add x (Nat.div x 16)) 252645135)
def c2 (x : Nat) : Nat := c3 (Nat.add (Nat.land x 858993459) (Nat.land (Nat.div x 4) 858993459))
def c1 (x : Nat) : Nat := c2 (Nat.sub x (Nat.land (Nat.div x 2) 1431655765))
theorem bc_fin : allC (fun x c => Nat.beq (c1 x) c) 16 0 0 = true := by decide +kernel
theorem bc_all {x : Nat} (hx : x < 65536) : b6 (b5 (b4 (b3 (b2 (b1 x))))) = pcB 16 x := by
  have h := allC_ok 16 0 0 0 bc_fin (by decide) rfl x (by omega) (by omega)
  rw [Nat.zero_add] at h
  exact Nat.eq_of_beq_eq_true h
theorem ntzF_ok : ∀ k x, x ≠ 0 → x < 2 ^ k → ntzF k x < k ∧ ∃ y, x = 2 ^ ntzF k x * (2 * y + 1) := by
  intro k
  induction k with
  | zero => intro x h0 h; omega
  | succ k ih =>
    intro x h0 h
    rw [ntzF]
    by_cases c : x % 2 = 1
    · rw [if_pos c]
      exact ⟨by omega, x / 2, by omega⟩
    · rw [if_neg c]
      obtain ⟨h1, y, h2⟩ := ih (x / 2) (by omega) (by rw [Nat.pow_succ] at h; omega)
      refine ⟨by omega, y, ?_⟩
      have : x = 2 * (x / 2) := by omega
      rw [this, Nat.add_comm, Nat.pow_succ]
      rw [← this]
      generalize ntzF k (x / 2) = q at h2 ⊢
      rw [Nat.mul_comm (2 ^ q) 2, Nat.mul_assoc, ← h2]
      omega
theorem ntz_all {x : Nat} (hx : x < 65536) (h0 : x ≠ 0) : ((x ^^^ 4294967295) &&& (x - 1)) = 2 ^ ntz x - 1 ∧ ntz x < 16 ∧ x.testBit (ntz x) = true ∧ ∀ j, j < ntz x → x.testBit j = false := by
  obtain ⟨h1, y, h2⟩ := ntzF_ok 16 x h0 hx
  have hk : ntz x < 16 := h1
  have h2 : x = 2 ^ ntz x * (2 * y + 1) := h2
  generalize ntz x = k at hk h2 ⊢
  have hp : 0 < 2 ^ k := Nat.two_pow_pos k
  have e1 : x - 1 = 2 ^ k * (2 * y) + (2 ^ k - 1) := by
    rw [h2, Nat.mul_add]
    omega
  have bx : ∀ j, x.testBit j = (decide (k ≤ j) && (2 * y + 1).testBit (j - k)) := by
    intro j
    rw [h2, Nat.testBit_two_pow_mul]
  have by_ : ∀ j, (x - 1).testBit j = if j < k then true else (2 * y).testBit (j - k) := by
    intro j
    rw [e1, Nat.testBit_two_pow_mul_add _ (by omega)]
    by_cases c : j < k
    · rw [if_pos c, if_pos c, Nat.testBit_two_pow_sub_one, decide_eq_true c]
    · rw [if_neg c, if_neg c]
  refine ⟨?_, hk, ?_, ?_⟩
  · apply Nat.eq_of_testBit_eq
    intro j
    rw [Nat.testBit_and, Nat.testBit_xor, show 4294967295 = 2 ^ 32 - 1 from rfl, Nat.testBit_two_pow_sub_one, Nat.testBit_two_pow_sub_one, bx j, by_ j]
    by_cases c : j < k
    · rw [if_pos c, decide_eq_false (show ¬ k ≤ j by omega), decide_eq_true c, decide_eq_true (show j < 32 by omega)]
      rfl
    · rw [if_neg c, decide_eq_true (show k ≤ j by omega), decide_eq_false c]
      by_cases c2 : j = k
      · subst c2
        rw [Nat.sub_self, Nat.testBit_zero, Nat.testBit_zero, decide_eq_false (show ¬ (2 * y) % 2 = 1 by omega), Bool.and_false]
      · obtain ⟨i, hi⟩ : ∃ i, j - k = i + 1 := ⟨j - k - 1, by omega⟩
        rw [hi, Nat.testBit_succ, Nat.testBit_succ, show (2 * y + 1) / 2 = y by omega, show (2 * y) / 2 = y by omega]
        by_cases c3 : j < 32
        · rw [decide_eq_true c3]
          cases y.testBit i <;> rfl
        · have : (x - 1).testBit j = false := Nat.testBit_lt_two_pow (Nat.lt_of_lt_of_le (show x - 1 < 2 ^ 16 by omega) (Nat.pow_le_pow_right (by decide) (by omega)))
          rw [by_ j, if_neg c, hi, Nat.testBit_succ, show (2 * y) / 2 = y by omega] at this
          rw [this, Bool.and_false]
  · rw [bx k, decide_eq_true (Nat.le_refl k), Nat.sub_self, Nat.testBit_zero]
    simp
  · intro j hj
    rw [bx j, decide_eq_false (by omega)]
    rfl
theorem ush {n k : Nat} (hn : n < 2 ^ 32) (hs : (((nI k).toUInt32 &&& Int32.toUInt32 31).toBitVec % 32).toNat = k) : ((nI n).toUInt32 >>> ((nI k).toUInt32 &&& Int32.toUInt32 31)).toInt32 = nI (n / 2 ^ k) := pk_ushrN hn _ _ hs
theorem b1_le (x : Nat) : b1 x ≤ x := Nat.sub_le _ _
theorem b2_le (x : Nat) : b2 x ≤ x + x := by
  have h1 : x &&& 858993459 ≤ x := Nat.and_le_left
  have h2 : (x / 4) &&& 858993459 ≤ x / 4 := Nat.and_le_left
  unfold b2
  omega
theorem b3_le (x : Nat) : b3 x ≤ x + x := by
  have h1 : (x + x / 16) &&& 252645135 ≤ x + x / 16 := Nat.and_le_left
  unfold b3
  omega
theorem b4_le (x : Nat) : b4 x ≤ x + x := by unfold b4; omega
theorem b1_I {x : Nat} (hx : x < 2 ^ 31) : nI x - (((nI x).toUInt32 >>> ((iI 1).toUInt32 &&& Int32.toUInt32 31)).toInt32 &&& iI 1431655765) = nI (b1 x) := by
  rw [show iI 1 = nI 1 from rfl, show iI 1431655765 = nI 1431655765 from rfl, ush (by omega) (by decide), nI_and, pk_sub]
  · rfl
  · have h : x / 2 ^ 1 &&& 1431655765 ≤ x / 2 ^ 1 := Nat.and_le_left
    omega
theorem b2_I {x : Nat} (hx : x < 2 ^ 31) : (nI x &&& iI 858993459) + (((nI x).toUInt32 >>> ((iI 2).toUInt32 &&& Int32.toUInt32 31)).toInt32 &&& iI 858993459) = nI (b2 x) := by
  rw [show iI 2 = nI 2 from rfl, show iI 858993459 = nI 858993459 from rfl, ush (by omega) (by decide), nI_and, nI_and, nI_add]
  rfl
theorem b3_I {x : Nat} (hx : x < 2 ^ 31) : (nI x + ((nI x).toUInt32 >>> ((iI 4).toUInt32 &&& Int32.toUInt32 31)).toInt32) &&& iI 252645135 = nI (b3 x) := by
  rw [show iI 4 = nI 4 from rfl, show iI 252645135 = nI 252645135 from rfl, ush (by omega) (by decide), nI_add, nI_and]
  rfl
theorem b4_I {x : Nat} (hx : x < 2 ^ 31) : nI x + ((nI x).toUInt32 >>> ((iI 8).toUInt32 &&& Int32.toUInt32 31)).toInt32 = nI (b4 x) := by
  rw [show iI 8 = nI 8 from rfl, ush (by omega) (by decide), nI_add]
  rfl
theorem b5_I {x : Nat} (hx : x < 2 ^ 31) : nI x + ((nI x).toUInt32 >>> ((iI 16).toUInt32 &&& Int32.toUInt32 31)).toInt32 = nI (b5 x) := by
  rw [show iI 16 = nI 16 from rfl, ush (by omega) (by decide), nI_add]
  rfl
theorem b6_I (x : Nat) : nI x &&& iI 63 = nI (b6 x) := by
  rw [show iI 63 = nI 63 from rfl, nI_and]
  rfl
theorem sp_bitCount {d : Nat} {M : mM} {x : Nat} (hx : x < 65536) : mR d mInteger_bitCount [.int (nI x)] M (some (.int (nI (pcB 16 x)))) M := by
  have h1 := b1_le x
  have h2 := b2_le (b1 x)
  have h3 := b3_le (b2 (b1 x))
  have h4 := b4_le (b3 (b2 (b1 x)))
  have hb := bc_all hx
  rw [← hb]
  show mP d mInteger_bitCount 0 [.int (nI x)] [] M _
  (repeat (fail_if_success (show mP _ _ 9 _ _ _ _)); (first | refine mP_go rfl rfl ?_ | ((show mP _ _ _ _ (Value.ref _ :: _) _ _); first | refine mP_getIv rfl (by assumption) (by assumption) ?_ | refine mP_getI rfl (by assumption) ?_ | refine mP_getR rfl (by assumption) (by assumption) ?_ | refine mP_getLv rfl (by assumption) (by assumption) ?_ | refine mP_getL rfl (by assumption) ?_) | ((show mP _ _ _ _ (_ :: Value.ref _ :: _) _ _); first | refine mP_putI rfl (by assumption) ?_ | refine mP_putL rfl (by assumption) ?_) | (first | ((show mP _ _ _ _ (Value.int _ :: Value.int _ :: _) _ _); first | refine mP_cmpT rfl (by ((apply tXT); (repeat' (first | with_reducible apply tt_rem | with_reducible apply tt_div | with_reducible apply tt_and1 | with_reducible apply tt_add | with_reducible apply tt_sub | with_reducible apply tt_mul | with_reducible apply tt_neg | with_reducible refine nI_toInt ?_ | with_reducible refine iI_toInt ?_ ?_ | with_reducible exact tz0 | with_reducible assumption | omega | ((simp only [tC, decide_eq_true_eq, decide_eq_false_iff_not]); omega))); (fail_if_success (focus skip)))) ?_ | refine mP_cmpF rfl (by ((apply tXT); (repeat' (first | with_reducible apply tt_rem | with_reducible apply tt_div | with_reducible apply tt_and1 | with_reducible apply tt_add | with_reducible apply tt_sub | with_reducible apply tt_mul | with_reducible apply tt_neg | with_reducible refine nI_toInt ?_ | with_reducible refine iI_toInt ?_ ?_ | with_reducible exact tz0 | with_reducible assumption | omega | ((simp only [tC, decide_eq_true_eq, decide_eq_false_iff_not]); omega))); (fail_if_success (focus skip)))) ?_) | ((show mP _ _ _ _ (Value.int _ :: _) _ _); first | refine mP_ifT rfl (by ((apply tXT); (repeat' (first | with_reducible apply tt_rem | with_reducible apply tt_div | with_reducible apply tt_and1 | with_reducible apply tt_add | with_reducible apply tt_sub | with_reducible apply tt_mul | with_reducible apply tt_neg | with_reducible refine nI_toInt ?_ | with_reducible refine iI_toInt ?_ ?_ | with_reducible exact tz0 | with_reducible assumption | omega | ((simp only [tC, decide_eq_true_eq, decide_eq_false_iff_not]); omega))); (fail_if_success (focus skip)))) ?_ | refine mP_ifF rfl (by ((apply tXT); (repeat' (first | with_reducible apply tt_rem | with_reducible apply tt_div | with_reducible apply tt_and1 | with_reducible apply tt_add | with_reducible apply tt_sub | with_reducible apply tt_mul | with_reducible apply tt_neg | with_reducible refine nI_toInt ?_ | with_reducible refine iI_toInt ?_ ?_ | with_reducible exact tz0 | with_reducible assumption | omega | ((simp only [tC, decide_eq_true_eq, decide_eq_false_iff_not]); omega))); (fail_if_success (focus skip)))) ?_))); (try dsimp only))
  rw [b1_I (by omega)]
  generalize b1 x = y at *
  refine mP_go rfl rfl ?_
  show mP d mInteger_bitCount 10 [.int (nI y)] [] M _
  (repeat (fail_if_success (show mP _ _ 23 _ _ _ _)); (first | refine mP_go rfl rfl ?_ | ((show mP _ _ _ _ (Value.ref _ :: _) _ _); first | refine mP_getIv rfl (by assumption) (by assumption) ?_ | refine mP_getI rfl (by assumption) ?_ | refine mP_getR rfl (by assumption) (by assumption) ?_ | refine mP_getLv rfl (by assumption) (by assumption) ?_ | refine mP_getL rfl (by assumption) ?_) | ((show mP _ _ _ _ (_ :: Value.ref _ :: _) _ _); first | refine mP_putI rfl (by assumption) ?_ | refine mP_putL rfl (by assumption) ?_) | (first | ((show mP _ _ _ _ (Value.int _ :: Value.int _ :: _) _ _); first | refine mP_cmpT rfl (by ((apply tXT); (repeat' (first | with_reducible apply tt_rem | with_reducible apply tt_div | with_reducible apply tt_and1 | with_reducible apply tt_add | with_reducible apply tt_sub | with_reducible apply tt_mul | with_reducible apply tt_neg | with_reducible refine nI_toInt ?_ | with_reducible refine iI_toInt ?_ ?_ | with_reducible exact tz0 | with_reducible assumption | omega | ((simp only [tC, decide_eq_true_eq, decide_eq_false_iff_not]); omega))); (fail_if_success (focus skip)))) ?_ | refine mP_cmpF rfl (by ((apply tXT); (repeat' (first | with_reducible apply tt_rem | with_reducible apply tt_div | with_reducible apply tt_and1 | with_reducible apply tt_add | with_reducible apply tt_sub | with_reducible apply tt_mul | with_reducible apply tt_neg | with_reducible refine nI_toInt ?_ | with_reducible refine iI_toInt ?_ ?_ | with_reducible exact tz0 | with_reducible assumption | omega | ((simp only [tC, decide_eq_true_eq, decide_eq_false_iff_not]); omega))); (fail_if_success (focus skip)))) ?_) | ((show mP _ _ _ _ (Value.int _ :: _) _ _); first | refine mP_ifT rfl (by ((apply tXT); (repeat' (first | with_reducible apply tt_rem | with_reducible apply tt_div | with_reducible apply tt_and1 | with_reducible apply tt_add | with_reducible apply tt_sub | with_reducible apply tt_mul | with_reducible apply tt_neg | with_reducible refine nI_toInt ?_ | with_reducible refine iI_toInt ?_ ?_ | with_reducible exact tz0 | with_reducible assumption | omega | ((simp only [tC, decide_eq_true_eq, decide_eq_false_iff_not]); omega))); (fail_if_success (focus skip)))) ?_ | refine mP_ifF rfl (by ((apply tXT); (repeat' (first | with_reducible apply tt_rem | with_reducible apply tt_div | with_reducible apply tt_and1 | with_reducible apply tt_add | with_reducible apply tt_sub | with_reducible apply tt_mul | with_reducible apply tt_neg | with_reducible refine nI_toInt ?_ | with_reducible refine iI_toInt ?_ ?_ | with_reducible exact tz0 | with_reducible assumption | omega | ((simp only [tC, decide_eq_true_eq, decide_eq_false_iff_not]); omega))); (fail_if_success (focus skip)))) ?_))); (try dsimp only))
  rw [b2_I (by omega)]
  generalize b2 y = z at *
  refine mP_go rfl rfl ?_
  show mP d mInteger_bitCount 24 [.int (nI z)] [] M _
  (repeat (fail_if_success (show mP _ _ 33 _ _ _ _)); (first | refine mP_go rfl rfl ?_ | ((show mP _ _ _ _ (Value.ref _ :: _) _ _); first | refine mP_getIv rfl (by assumption) (by assumption) ?_ | refine mP_getI rfl (by assumption) ?_ | refine mP_getR rfl (by assumption) (by assumption) ?_ | refine mP_getLv rfl (by assumption) (by assumption) ?_ | refine mP_getL rfl (by assumption) ?_) | ((show mP _ _ _ _ (_ :: Value.ref _ :: _) _ _); first | refine mP_putI rfl (by assumption) ?_ | refine mP_putL rfl (by assumption) ?_) | (first | ((show mP _ _ _ _ (Value.int _ :: Value.int _ :: _) _ _); first | refine mP_cmpT rfl (by ((apply tXT); (repeat' (first | with_reducible apply tt_rem | with_reducible apply tt_div | with_reducible apply tt_and1 | with_reducible apply tt_add | with_reducible apply tt_sub | with_reducible apply tt_mul | with_reducible apply tt_neg | with_reducible refine nI_toInt ?_ | with_reducible refine iI_toInt ?_ ?_ | with_reducible exact tz0 | with_reducible assumption | omega | ((simp only [tC, decide_eq_true_eq, decide_eq_false_iff_not]); omega))); (fail_if_success (focus skip)))) ?_ | refine mP_cmpF rfl (by ((apply tXT); (repeat' (first | with_reducible apply tt_rem | with_reducible apply tt_div | with_reducible apply tt_and1 | with_reducible apply tt_add | with_reducible apply tt_sub | with_reducible apply tt_mul | with_reducible apply tt_neg | with_reducible refine nI_toInt ?_ | with_reducible refine iI_toInt ?_ ?_ | with_reducible exact tz0 | with_reducible assumption | omega | ((simp only [tC, decide_eq_true_eq, decide_eq_false_iff_not]); omega))); (fail_if_success (focus skip)))) ?_) | ((show mP _ _ _ _ (Value.int _ :: _) _ _); first | refine mP_ifT rfl (by ((apply tXT); (repeat' (first | with_reducible apply tt_rem | with_reducible apply tt_div | with_reducible apply tt_and1 | with_reducible apply tt_add | with_reducible apply tt_sub | with_reducible apply tt_mul | with_reducible apply tt_neg | with_reducible refine nI_toInt ?_ | with_reducible refine iI_toInt ?_ ?_ | with_reducible exact tz0 | with_reducible assumption | omega | ((simp only [tC, decide_eq_true_eq, decide_eq_false_iff_not]); omega))); (fail_if_success (focus skip)))) ?_ | refine mP_ifF rfl (by ((apply tXT); (repeat' (first | with_reducible apply tt_rem | with_reducible apply tt_div | with_reducible apply tt_and1 | with_reducible apply tt_add | with_reducible apply tt_sub | with_reducible apply tt_mul | with_reducible apply tt_neg | with_reducible refine nI_toInt ?_ | with_reducible refine iI_toInt ?_ ?_ | with_reducible exact tz0 | with_reducible assumption | omega | ((simp only [tC, decide_eq_true_eq, decide_eq_false_iff_not]); omega))); (fail_if_success (focus skip)))) ?_))); (try dsimp only))
  rw [b3_I (by omega)]
  generalize b3 z = u at *
  refine mP_go rfl rfl ?_
  show mP d mInteger_bitCount 34 [.int (nI u)] [] M _
  (repeat (fail_if_success (show mP _ _ 40 _ _ _ _)); (first | refine mP_go rfl rfl ?_ | ((show mP _ _ _ _ (Value.ref _ :: _) _ _); first | refine mP_getIv rfl (by assumption) (by assumption) ?_ | refine mP_getI rfl (by assumption) ?_ | refine mP_getR rfl (by assumption) (by assumption) ?_ | refine mP_getLv rfl (by assumption) (by assumption) ?_ | refine mP_getL rfl (by assumption) ?_) | ((show mP _ _ _ _ (_ :: Value.ref _ :: _) _ _); first | refine mP_putI rfl (by assumption) ?_ | refine mP_putL rfl (by assumption) ?_) | (first | ((show mP _ _ _ _ (Value.int _ :: Value.int _ :: _) _ _); first | refine mP_cmpT rfl (by ((apply tXT); (repeat' (first | with_reducible apply tt_rem | with_reducible apply tt_div | with_reducible apply tt_and1 | with_reducible apply tt_add | with_reducible apply tt_sub | with_reducible apply tt_mul | with_reducible apply tt_neg | with_reducible refine nI_toInt ?_ | with_reducible refine iI_toInt ?_ ?_ | with_reducible exact tz0 | with_reducible assumption | omega | ((simp only [tC, decide_eq_true_eq, decide_eq_false_iff_not]); omega))); (fail_if_success (focus skip)))) ?_ | refine mP_cmpF rfl (by ((apply tXT); (repeat' (first | with_reducible apply tt_rem | with_reducible apply tt_div | with_reducible apply tt_and1 | with_reducible apply tt_add | with_reducible apply tt_sub | with_reducible apply tt_mul | with_reducible apply tt_neg | with_reducible refine nI_toInt ?_ | with_reducible refine iI_toInt ?_ ?_ | with_reducible exact tz0 | with_reducible assumption | omega | ((simp only [tC, decide_eq_true_eq, decide_eq_false_iff_not]); omega))); (fail_if_success (focus skip)))) ?_) | ((show mP _ _ _ _ (Value.int _ :: _) _ _); first | refine mP_ifT rfl (by ((apply tXT); (repeat' (first | with_reducible apply tt_rem | with_reducible apply tt_div | with_reducible apply tt_and1 | with_reducible apply tt_add | with_reducible apply tt_sub | with_reducible apply tt_mul | with_reducible apply tt_neg | with_reducible refine nI_toInt ?_ | with_reducible refine iI_toInt ?_ ?_ | with_reducible exact tz0 | with_reducible assumption | omega | ((simp only [tC, decide_eq_true_eq, decide_eq_false_iff_not]); omega))); (fail_if_success (focus skip)))) ?_ | refine mP_ifF rfl (by ((apply tXT); (repeat' (first | with_reducible apply tt_rem | with_reducible apply tt_div | with_reducible apply tt_and1 | with_reducible apply tt_add | with_reducible apply tt_sub | with_reducible apply tt_mul | with_reducible apply tt_neg | with_reducible refine nI_toInt ?_ | with_reducible refine iI_toInt ?_ ?_ | with_reducible exact tz0 | with_reducible assumption | omega | ((simp only [tC, decide_eq_true_eq, decide_eq_false_iff_not]); omega))); (fail_if_success (focus skip)))) ?_))); (try dsimp only))
  rw [b4_I (by omega)]
  generalize b4 u = v at *
  refine mP_go rfl rfl ?_
  show mP d mInteger_bitCount 41 [.int (nI v)] [] M _
  (repeat (fail_if_success (show mP _ _ 47 _ _ _ _)); (first | refine mP_go rfl rfl ?_ | ((show mP _ _ _ _ (Value.ref _ :: _) _ _); first | refine mP_getIv rfl (by assumption) (by assumption) ?_ | refine mP_getI rfl (by assumption) ?_ | refine mP_getR rfl (by assumption) (by assumption) ?_ | refine mP_getLv rfl (by assumption) (by assumption) ?_ | refine mP_getL rfl (by assumption) ?_) | ((show mP _ _ _ _ (_ :: Value.ref _ :: _) _ _); first | refine mP_putI rfl (by assumption) ?_ | refine mP_putL rfl (by assumption) ?_) | (first | ((show mP _ _ _ _ (Value.int _ :: Value.int _ :: _) _ _); first | refine mP_cmpT rfl (by ((apply tXT); (repeat' (first | with_reducible apply tt_rem | with_reducible apply tt_div | with_reducible apply tt_and1 | with_reducible apply tt_add | with_reducible apply tt_sub | with_reducible apply tt_mul | with_reducible apply tt_neg | with_reducible refine nI_toInt ?_ | with_reducible refine iI_toInt ?_ ?_ | with_reducible exact tz0 | with_reducible assumption | omega | ((simp only [tC, decide_eq_true_eq, decide_eq_false_iff_not]); omega))); (fail_if_success (focus skip)))) ?_ | refine mP_cmpF rfl (by ((apply tXT); (repeat' (first | with_reducible apply tt_rem | with_reducible apply tt_div | with_reducible apply tt_and1 | with_reducible apply tt_add | with_reducible apply tt_sub | with_reducible apply tt_mul | with_reducible apply tt_neg | with_reducible refine nI_toInt ?_ | with_reducible refine iI_toInt ?_ ?_ | with_reducible exact tz0 | with_reducible assumption | omega | ((simp only [tC, decide_eq_true_eq, decide_eq_false_iff_not]); omega))); (fail_if_success (focus skip)))) ?_) | ((show mP _ _ _ _ (Value.int _ :: _) _ _); first | refine mP_ifT rfl (by ((apply tXT); (repeat' (first | with_reducible apply tt_rem | with_reducible apply tt_div | with_reducible apply tt_and1 | with_reducible apply tt_add | with_reducible apply tt_sub | with_reducible apply tt_mul | with_reducible apply tt_neg | with_reducible refine nI_toInt ?_ | with_reducible refine iI_toInt ?_ ?_ | with_reducible exact tz0 | with_reducible assumption | omega | ((simp only [tC, decide_eq_true_eq, decide_eq_false_iff_not]); omega))); (fail_if_success (focus skip)))) ?_ | refine mP_ifF rfl (by ((apply tXT); (repeat' (first | with_reducible apply tt_rem | with_reducible apply tt_div | with_reducible apply tt_and1 | with_reducible apply tt_add | with_reducible apply tt_sub | with_reducible apply tt_mul | with_reducible apply tt_neg | with_reducible refine nI_toInt ?_ | with_reducible refine iI_toInt ?_ ?_ | with_reducible exact tz0 | with_reducible assumption | omega | ((simp only [tC, decide_eq_true_eq, decide_eq_false_iff_not]); omega))); (fail_if_success (focus skip)))) ?_))); (try dsimp only))
  rw [b5_I (by omega)]
  generalize b5 v = w at *
  refine mP_go rfl rfl ?_
  show mP d mInteger_bitCount 48 [.int (nI w)] [] M _
  (repeat (fail_if_success (show mP _ _ 52 _ _ _ _)); (first | refine mP_go rfl rfl ?_ | ((show mP _ _ _ _ (Value.ref _ :: _) _ _); first | refine mP_getIv rfl (by assumption) (by assumption) ?_ | refine mP_getI rfl (by assumption) ?_ | refine mP_getR rfl (by assumption) (by assumption) ?_ | refine mP_getLv rfl (by assumption) (by assumption) ?_ | refine mP_getL rfl (by assumption) ?_) | ((show mP _ _ _ _ (_ :: Value.ref _ :: _) _ _); first | refine mP_putI rfl (by assumption) ?_ | refine mP_putL rfl (by assumption) ?_) | (first | ((show mP _ _ _ _ (Value.int _ :: Value.int _ :: _) _ _); first | refine mP_cmpT rfl (by ((apply tXT); (repeat' (first | with_reducible apply tt_rem | with_reducible apply tt_div | with_reducible apply tt_and1 | with_reducible apply tt_add | with_reducible apply tt_sub | with_reducible apply tt_mul | with_reducible apply tt_neg | with_reducible refine nI_toInt ?_ | with_reducible refine iI_toInt ?_ ?_ | with_reducible exact tz0 | with_reducible assumption | omega | ((simp only [tC, decide_eq_true_eq, decide_eq_false_iff_not]); omega))); (fail_if_success (focus skip)))) ?_ | refine mP_cmpF rfl (by ((apply tXT); (repeat' (first | with_reducible apply tt_rem | with_reducible apply tt_div | with_reducible apply tt_and1 | with_reducible apply tt_add | with_reducible apply tt_sub | with_reducible apply tt_mul | with_reducible apply tt_neg | with_reducible refine nI_toInt ?_ | with_reducible refine iI_toInt ?_ ?_ | with_reducible exact tz0 | with_reducible assumption | omega | ((simp only [tC, decide_eq_true_eq, decide_eq_false_iff_not]); omega))); (fail_if_success (focus skip)))) ?_) | ((show mP _ _ _ _ (Value.int _ :: _) _ _); first | refine mP_ifT rfl (by ((apply tXT); (repeat' (first | with_reducible apply tt_rem | with_reducible apply tt_div | with_reducible apply tt_and1 | with_reducible apply tt_add | with_reducible apply tt_sub | with_reducible apply tt_mul | with_reducible apply tt_neg | with_reducible refine nI_toInt ?_ | with_reducible refine iI_toInt ?_ ?_ | with_reducible exact tz0 | with_reducible assumption | omega | ((simp only [tC, decide_eq_true_eq, decide_eq_false_iff_not]); omega))); (fail_if_success (focus skip)))) ?_ | refine mP_ifF rfl (by ((apply tXT); (repeat' (first | with_reducible apply tt_rem | with_reducible apply tt_div | with_reducible apply tt_and1 | with_reducible apply tt_add | with_reducible apply tt_sub | with_reducible apply tt_mul | with_reducible apply tt_neg | with_reducible refine nI_toInt ?_ | with_reducible refine iI_toInt ?_ ?_ | with_reducible exact tz0 | with_reducible assumption | omega | ((simp only [tC, decide_eq_true_eq, decide_eq_false_iff_not]); omega))); (fail_if_success (focus skip)))) ?_))); (try dsimp only))
  rw [b6_I]
  exact mP_ret rfl rfl ⟨rfl, rfl⟩
theorem sp_ntz {d : Nat} {M : mM} {x : Nat} (hx : x < 65536) (h0 : x ≠ 0) : mR d mInteger_numberOfTrailingZeros [.int (nI x)] M (some (.int (nI (ntz x)))) M := by
  obtain ⟨e, hk, -, -⟩ := ntz_all hx h0
  have e1 : (nI x ^^^ iI (-1)) &&& (nI x - iI 1) = nI (2 ^ ntz x - 1) := by
    rw [show iI (-1) = nI 4294967295 from by decide, show iI 1 = nI 1 from rfl, nI_xor, pk_sub (by omega), nI_and, e]
  show mP d mInteger_numberOfTrailingZeros 0 [.int (nI x), .retAddr 0] [] M _
  (repeat (fail_if_success (show mP _ _ 7 _ _ _ _)); (first | refine mP_go rfl rfl ?_ | ((show mP _ _ _ _ (Value.ref _ :: _) _ _); first | refine mP_getIv rfl (by assumption) (by assumption) ?_ | refine mP_getI rfl (by assumption) ?_ | refine mP_getR rfl (by assumption) (by assumption) ?_ | refine mP_getLv rfl (by assumption) (by assumption) ?_ | refine mP_getL rfl (by assumption) ?_) | ((show mP _ _ _ _ (_ :: Value.ref _ :: _) _ _); first | refine mP_putI rfl (by assumption) ?_ | refine mP_putL rfl (by assumption) ?_) | (first | ((show mP _ _ _ _ (Value.int _ :: Value.int _ :: _) _ _); first | refine mP_cmpT rfl (by ((apply tXT); (repeat' (first | with_reducible apply tt_rem | with_reducible apply tt_div | with_reducible apply tt_and1 | with_reducible apply tt_add | with_reducible apply tt_sub | with_reducible apply tt_mul | with_reducible apply tt_neg | with_reducible refine nI_toInt ?_ | with_reducible refine iI_toInt ?_ ?_ | with_reducible exact tz0 | with_reducible assumption | omega | ((simp only [tC, decide_eq_true_eq, decide_eq_false_iff_not]); omega))); (fail_if_success (focus skip)))) ?_ | refine mP_cmpF rfl (by ((apply tXT); (repeat' (first | with_reducible apply tt_rem | with_reducible apply tt_div | with_reducible apply tt_and1 | with_reducible apply tt_add | with_reducible apply tt_sub | with_reducible apply tt_mul | with_reducible apply tt_neg | with_reducible refine nI_toInt ?_ | with_reducible refine iI_toInt ?_ ?_ | with_reducible exact tz0 | with_reducible assumption | omega | ((simp only [tC, decide_eq_true_eq, decide_eq_false_iff_not]); omega))); (fail_if_success (focus skip)))) ?_) | ((show mP _ _ _ _ (Value.int _ :: _) _ _); first | refine mP_ifT rfl (by ((apply tXT); (repeat' (first | with_reducible apply tt_rem | with_reducible apply tt_div | with_reducible apply tt_and1 | with_reducible apply tt_add | with_reducible apply tt_sub | with_reducible apply tt_mul | with_reducible apply tt_neg | with_reducible refine nI_toInt ?_ | with_reducible refine iI_toInt ?_ ?_ | with_reducible exact tz0 | with_reducible assumption | omega | ((simp only [tC, decide_eq_true_eq, decide_eq_false_iff_not]); omega))); (fail_if_success (focus skip)))) ?_ | refine mP_ifF rfl (by ((apply tXT); (repeat' (first | with_reducible apply tt_rem | with_reducible apply tt_div | with_reducible apply tt_and1 | with_reducible apply tt_add | with_reducible apply tt_sub | with_reducible apply tt_mul | with_reducible apply tt_neg | with_reducible refine nI_toInt ?_ | with_reducible refine iI_toInt ?_ ?_ | with_reducible exact tz0 | with_reducible assumption | omega | ((simp only [tC, decide_eq_true_eq, decide_eq_false_iff_not]); omega))); (fail_if_success (focus skip)))) ?_))); (try dsimp only))
  rw [e1]
  generalize ntz x = k at hk ⊢
  refine mP_go rfl rfl ?_
  have hk2 : k = 0 ∨ k = 1 ∨ k = 2 ∨ k = 3 ∨ k = 4 ∨ k = 5 ∨ k = 6 ∨ k = 7 ∨ k = 8 ∨ k = 9 ∨ k = 10 ∨ k = 11 ∨ k = 12 ∨ k = 13 ∨ k = 14 ∨ k = 15 := by omega
  rcases hk2 with h | h | h | h | h | h | h | h | h | h | h | h | h | h | h | h <;>
    (subst h; (repeat (first | refine mP_go rfl rfl ?_ | ((show mP _ _ _ _ (Value.ref _ :: _) _ _); first | refine mP_getIv rfl (by assumption) (by assumption) ?_ | refine mP_getI rfl (by assumption) ?_ | refine mP_getR rfl (by assumption) (by assumption) ?_ | refine mP_getLv rfl (by assumption) (by assumption) ?_ | refine mP_getL rfl (by assumption) ?_) | ((show mP _ _ _ _ (_ :: Value.ref _ :: _) _ _); first | refine mP_putI rfl (by assumption) ?_ | refine mP_putL rfl (by assumption) ?_)); (try dsimp only)); exact mP_ret rfl rfl ⟨rfl, rfl⟩)
