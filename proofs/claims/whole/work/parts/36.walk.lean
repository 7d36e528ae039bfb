/-! tools for walking: tests decided by their numbers -/
def tC (c : ClassFile.Cond) (a b : Int) : Bool := match c with
  | .eq => decide (a = b)
  | .ne => decide (a ≠ b)
  | .lt => decide (a < b)
  | .ge => decide (b ≤ a)
  | .gt => decide (b < a)
  | .le => decide (a ≤ b)
theorem Int32_eq_iff {x y : Int32} : x = y ↔ x.toInt = y.toInt := ⟨fun h => by rw [h], fun h => Int32.toInt_inj.mp h⟩
theorem tX {c : ClassFile.Cond} {x y : Int32} {a b : Int} (hx : x.toInt = a) (hy : y.toInt = b) : mTest c x y = tC c a b := by
  subst hx hy
  cases c
  · exact decide_eq_decide.mpr Int32_eq_iff
  · exact decide_eq_decide.mpr (not_congr Int32_eq_iff)
  · exact decide_eq_decide.mpr Int32.lt_iff_toInt_lt
  · exact decide_eq_decide.mpr Int32.le_iff_toInt_le
  · exact decide_eq_decide.mpr Int32.lt_iff_toInt_lt
  · exact decide_eq_decide.mpr Int32.le_iff_toInt_le
theorem Int64_eq_iff {x y : Int64} : x = y ↔ x.toInt = y.toInt := ⟨fun h => by rw [h], fun h => Int64.toInt_inj.mp h⟩
theorem tL {c : ClassFile.Cond} {x y : Int64} {a b : Int} (hx : x.toInt = a) (hy : y.toInt = b) : mTest c (lg_cmp x y) 0 = tC c a b := by
  subst hx hy
  cases c
  · exact decide_eq_decide.mpr ((lg_cmp_eq x y).trans Int64_eq_iff)
  · exact decide_eq_decide.mpr (not_congr ((lg_cmp_eq x y).trans Int64_eq_iff))
  · exact decide_eq_decide.mpr ((lg_cmp_lt x y).trans Int64.lt_iff_toInt_lt)
  · exact decide_eq_decide.mpr ((lg_cmp_ge x y).trans Int64.le_iff_toInt_le)
  · exact decide_eq_decide.mpr ((lg_cmp_gt x y).trans Int64.lt_iff_toInt_lt)
  · exact decide_eq_decide.mpr ((lg_cmp_le x y).trans Int64.le_iff_toInt_le)
theorem tXT {c : ClassFile.Cond} {x y : Int32} {a b : Int} {r : Bool} (hx : x.toInt = a) (hy : y.toInt = b) (h : tC c a b = r) : mTest c x y = r := (tX hx hy).trans h
theorem tLT {c : ClassFile.Cond} {x y : Int64} {a b : Int} {r : Bool} (hx : x.toInt = a) (hy : y.toInt = b) (h : tC c a b = r) : mTest c (lg_cmp x y) 0 = r := (tL hx hy).trans h
theorem lI_toInt {a : Int} (h : -9223372036854775808 ≤ a) (h2 : a < 9223372036854775808) : (lI a).toInt = a := Int64.toInt_ofInt_of_le h h2
theorem tz0 : (0 : Int32).toInt = 0 := rfl
theorem tt_add {x y : Int32} {a b : Int} (hx : x.toInt = a) (hy : y.toInt = b) (h1 : -2147483648 ≤ a + b) (h2 : a + b < 2147483648) : (x + y).toInt = a + b := by
  rw [← iI_self x, ← iI_self y, iI_add, hx, hy]
  exact iI_toInt h1 h2
theorem tt_sub {x y : Int32} {a b : Int} (hx : x.toInt = a) (hy : y.toInt = b) (h1 : -2147483648 ≤ a - b) (h2 : a - b < 2147483648) : (x - y).toInt = a - b := by
  rw [← iI_self x, ← iI_self y, iI_sub, hx, hy]
  exact iI_toInt h1 h2
theorem tt_mul {x y : Int32} {a b : Int} (hx : x.toInt = a) (hy : y.toInt = b) (h1 : -2147483648 ≤ a * b) (h2 : a * b < 2147483648) : (x * y).toInt = a * b := by
  rw [← iI_self x, ← iI_self y, iI_mul, hx, hy]
  exact iI_toInt h1 h2
theorem tt_neg {x : Int32} {a : Int} (hx : x.toInt = a) (h1 : -2147483648 ≤ -a) (h2 : -a < 2147483648) : (-x).toInt = -a := by
  rw [← iI_self x, iI_neg, hx]
  exact iI_toInt h1 h2
theorem tt_div {x y : Int32} {a b : Int} (hx : x.toInt = a) (hy : y.toInt = b) (h1 : 0 ≤ a) (h2 : 0 < b) : (x / y).toInt = a / b := by
  subst hx hy
  exact lg_idiv_nonneg h1 h2
theorem tt_rem {x y : Int32} {a b : Int} (hx : x.toInt = a) (hy : y.toInt = b) (h1 : 0 ≤ a) (h2 : 0 < b) : (x - x / y * y).toInt = a % b := by
  have l1 := Int32.toInt_lt x
  have l2 := Int32.toInt_lt y
  rw [hx] at l1
  rw [hy] at l2
  obtain ⟨p, rfl⟩ := Int.eq_ofNat_of_zero_le h1
  obtain ⟨q, rfl⟩ := Int.eq_ofNat_of_zero_le (Int.le_of_lt h2)
  have e1 : x = nI p := by rw [← iI_self x, hx, nI_iI]
  have e2 : y = nI q := by rw [← iI_self y, hy, nI_iI]
  have hp : p < 2 ^ 31 := by omega
  have hq : q < 2 ^ 31 := by omega
  have hq0 : 0 < q := by omega
  rw [e1, e2, pk_rem hp hq0 hq, nI_toInt (Nat.lt_of_le_of_lt (Nat.mod_le _ _) hp)]
  rfl
theorem tt_and1 {x : Int32} {a : Int} (hx : x.toInt = a) (h1 : 0 ≤ a) : (x &&& iI 1).toInt = a % 2 := by
  have l1 := Int32.toInt_lt x
  rw [hx] at l1
  obtain ⟨p, rfl⟩ := Int.eq_ofNat_of_zero_le h1
  have e1 : x = nI p := by rw [← iI_self x, hx, nI_iI]
  rw [e1, show iI 1 = nI 1 from rfl, nI_and1, nI_toInt (by omega)]
  rfl
theorem to_i {x : Int32} {a b : Int} (h : x.toInt = a) (hb : a = b) : x = iI b := by rw [← iI_self x, h, hb]
theorem to_n {x : Int32} {a : Int} {n : Nat} (h : x.toInt = a) (hb : a = n) : x = nI n := by rw [nI_iI]; exact to_i h hb
theorem bI_toInt (b : Bool) : (bI b).toInt = if b then 1 else 0 := by cases b <;> rfl
section MWalk
variable {d mt pc : Nat} {ls st : List Value} {M : mM} {Q : (Option Value ⊕ Nat) → mM → Prop} {ix ci sl n a : Nat}
theorem mP_getIv {x : Int32} (hr : mIns mt pc = some (.getfield ix, 3, ci, sl, 0)) (hk : mKd M a = (ci, n)) (hv : mi M a sl = x) (k : mP d mt (pc + 3) ls (.int x :: st) M Q) : mP d mt pc ls (.ref a :: st) M Q := by
  subst hv
  exact mP_getI hr hk k
theorem mP_getLv {x : Int64} (hr : mIns mt pc = some (.getfield ix, 3, ci, sl, 1)) (hk : mKd M a = (ci, n)) (hv : ml M a sl = x) (k : mP d mt (pc + 3) ls (.long x :: st) M Q) : mP d mt pc ls (.ref a :: st) M Q := by
  subst hv
  exact mP_getL hr hk k
theorem ix_nI {x : Int32} {z : Int} {j : Nat} (hx : x.toInt = z) (hz : z = j) : x = nI j := to_n hx hz
theorem mP_iaX {ax : Nat × Nat × Int} {x : Int32} {z : Int} {j : Nat} {v : Int32} (hr : mIns mt pc = some (.iaload, 1, ax)) (hk : mKd M a = (10, n)) (hx : x.toInt = z) (hz : z = j) (hj : j < n) (hn : n < 2 ^ 31) (hv : mi M a j = v) (k : mP d mt (pc + 1) ls (.int v :: st) M Q) : mP d mt pc ls (.int x :: .ref a :: st) M Q := by
  rw [to_n hx hz]
  subst hv
  exact mP_iald hr hk hj hn k
theorem mP_baX {ax : Nat × Nat × Int} {x : Int32} {z : Int} {j : Nat} {v : Int32} (hr : mIns mt pc = some (.baload, 1, ax)) (hk : mKd M a = (12, n)) (hx : x.toInt = z) (hz : z = j) (hj : j < n) (hn : n < 2 ^ 31) (hv : mi M a j = v) (k : mP d mt (pc + 1) ls (.int v :: st) M Q) : mP d mt pc ls (.int x :: .ref a :: st) M Q := by
  rw [to_n hx hz]
  subst hv
  exact mP_bald hr hk hj hn k
theorem mP_laX {ax : Nat × Nat × Int} {x : Int32} {z : Int} {j : Nat} {v : Int64} (hr : mIns mt pc = some (.laload, 1, ax)) (hk : mKd M a = (11, n)) (hx : x.toInt = z) (hz : z = j) (hj : j < n) (hn : n < 2 ^ 31) (hv : ml M a j = v) (k : mP d mt (pc + 1) ls (.long v :: st) M Q) : mP d mt pc ls (.int x :: .ref a :: st) M Q := by
  rw [to_n hx hz]
  subst hv
  exact mP_lald hr hk hj hn k
theorem mP_iaS {ax : Nat × Nat × Int} {x y : Int32} {z : Int} {j : Nat} (hr : mIns mt pc = some (.iastore, 1, ax)) (hk : mKd M a = (10, n)) (hx : x.toInt = z) (hz : z = j) (hj : j < n) (hn : n < 2 ^ 31) (k : mP d mt (pc + 1) ls st (wI M a (va_up (mi M a) j y)) Q) : mP d mt pc ls (.int y :: .int x :: .ref a :: st) M Q := by
  rw [to_n hx hz]
  exact mP_iast hr hk hj hn k
theorem mP_baS {ax : Nat × Nat × Int} {x y : Int32} {z : Int} {j : Nat} (hr : mIns mt pc = some (.bastore, 1, ax)) (hk : mKd M a = (12, n)) (hx : x.toInt = z) (hz : z = j) (hj : j < n) (hn : n < 2 ^ 31) (hy : y = 0 ∨ y = 1) (k : mP d mt (pc + 1) ls st (wI M a (va_up (mi M a) j y)) Q) : mP d mt pc ls (.int y :: .int x :: .ref a :: st) M Q := by
  rw [to_n hx hz]
  exact mP_bast hr hk hj hy hn k
theorem mP_laS {ax : Nat × Nat × Int} {x : Int32} {y : Int64} {z : Int} {j : Nat} (hr : mIns mt pc = some (.lastore, 1, ax)) (hk : mKd M a = (11, n)) (hx : x.toInt = z) (hz : z = j) (hj : j < n) (hn : n < 2 ^ 31) (k : mP d mt (pc + 1) ls st (wL M a (va_up (ml M a) j y)) Q) : mP d mt pc ls (.long y :: .int x :: .ref a :: st) M Q := by
  rw [to_n hx hz]
  exact mP_last hr hk hj hn k
end MWalk
/-- all up to 2 ^ k * (x + 1), by halves -/
def allB (p : Nat → Bool) : Nat → Nat → Bool
  | 0, x => p x
  | k + 1, x => allB p k (2 * x) && allB p k (2 * x + 1)
theorem allB_ok {p : Nat → Bool} : ∀ k x, allB p k x = true → ∀ y, x * 2 ^ k ≤ y → y < (x + 1) * 2 ^ k → p y = true := by
  intro k
  induction k with
  | zero => intro x h y h1 h2; have : y = x := by omega
            subst this; exact h
  | succ k ih =>
    intro x h y h1 h2
    simp only [allB, Bool.and_eq_true] at h
    rw [Nat.pow_succ] at h1 h2
    by_cases c : y < (2 * x + 1) * 2 ^ k
    · refine ih (2 * x) h.1 y ?_ c
      have e : 2 * x * 2 ^ k = x * (2 ^ k * 2) := by rw [Nat.mul_comm (2 ^ k) 2, ← Nat.mul_assoc, Nat.mul_comm x 2]
      omega
    · refine ih (2 * x + 1) h.2 y (by omega) ?_
      have e : (2 * x + 1 + 1) * 2 ^ k = (x + 1) * (2 ^ k * 2) := by
        rw [Nat.mul_comm (2 ^ k) 2, ← Nat.mul_assoc]
        congr 1
        omega
      omega
theorem all16 {p : Nat → Bool} (h : allB p 16 0 = true) {y : Nat} (hy : y < 65536) : p y = true := allB_ok 16 0 h y (by omega) (by omega)
/-- how many bits (of the lowest 16) -/
def pc16 (x : Nat) : Nat := (List.range 16).countP (fun j => x.testBit j)
