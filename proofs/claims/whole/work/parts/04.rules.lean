/-! RULES: the steps that ask something -/
section MRules
variable {d mt pc : Nat} {ls st : List Value} {M : mM} {Q : (Option Value ⊕ Nat) → mM → Prop} {ix ci sl n a : Nat}
theorem mP_getI (hr : mIns mt pc = some (.getfield ix, 3, ci, sl, 0)) (hk : mKd M a = (ci, n)) (k : mP d mt (pc + 3) ls (.int (mi M a sl) :: st) M Q) : mP d mt pc ls (.ref a :: st) M Q :=
  mP_go hr (by simp only [mStep, mGetf, hk]; rfl) k
theorem mP_getL (hr : mIns mt pc = some (.getfield ix, 3, ci, sl, 1)) (hk : mKd M a = (ci, n)) (k : mP d mt (pc + 3) ls (.long (ml M a sl) :: st) M Q) : mP d mt pc ls (.ref a :: st) M Q :=
  mP_go hr (by simp only [mStep, mGetf, hk]; rfl) k
theorem mP_getR {b : Nat} (hr : mIns mt pc = some (.getfield ix, 3, ci, sl, 2)) (hk : mKd M a = (ci, n)) (hb : mr M a sl = some b) (k : mP d mt (pc + 3) ls (.ref b :: st) M Q) : mP d mt pc ls (.ref a :: st) M Q :=
  mP_go hr (by simp only [mStep, mGetf, hk, if_true]; rw [show Int.toNat 2 = 2 from rfl]; simp only [hb]; rfl) k
theorem mP_putI {x : Int32} (hr : mIns mt pc = some (.putfield ix, 3, ci, sl, 0)) (hk : mKd M a = (ci, n)) (k : mP d mt (pc + 3) ls st (wI M a (va_up (mi M a) sl x)) Q) : mP d mt pc ls (.int x :: .ref a :: st) M Q :=
  mP_go hr (by simp only [mStep, mPutf, hk]; rfl) k
theorem mP_putL {x : Int64} (hr : mIns mt pc = some (.putfield ix, 3, ci, sl, 1)) (hk : mKd M a = (ci, n)) (k : mP d mt (pc + 3) ls st (wL M a (va_up (ml M a) sl x)) Q) : mP d mt pc ls (.long x :: .ref a :: st) M Q :=
  mP_go hr (by simp only [mStep, mPutf, hk]; rfl) k
theorem mP_putR {x : Nat} (hr : mIns mt pc = some (.putfield ix, 3, ci, sl, 2)) (hk : mKd M a = (ci, n)) (k : mP d mt (pc + 3) ls st (wR M a (va_up (mr M a) sl (some x))) Q) : mP d mt pc ls (.ref x :: .ref a :: st) M Q :=
  mP_go hr (by simp only [mStep, mPutf, hk]; rfl) k
theorem mIn_nI {j n : Nat} (hj : j < n) (hn : n < 2 ^ 31) : ¬ (nI j < 0 ∨ n ≤ j) := by
  have h := nI_in hj hn
  rwa [nI_clamp (Nat.lt_trans hj hn)] at h
theorem mP_iald {ax : Nat × Nat × Int} {j : Nat} (hr : mIns mt pc = some (.iaload, 1, ax)) (hk : mKd M a = (10, n)) (hj : j < n) (hn : n < 2 ^ 31 := by decide) (k : mP d mt (pc + 1) ls (.int (mi M a j) :: st) M Q) : mP d mt pc ls (.int (nI j) :: .ref a :: st) M Q :=
  mP_go hr (by simp only [mStep, hk, true_or, true_and, if_pos (mIn_nI hj hn), nI_clamp (Nat.lt_trans hj hn)]; rfl) k
theorem mP_sald {ax : Nat × Nat × Int} {j : Nat} (hr : mIns mt pc = some (.iaload, 1, ax)) (hk : mKd M a = (13, n)) (hj : j < n) (hn : n < 2 ^ 31) (k : mP d mt (pc + 1) ls (.int (mi M a j) :: st) M Q) : mP d mt pc ls (.int (nI j) :: .ref a :: st) M Q :=
  mP_go hr (by simp only [mStep, hk, or_true, true_and, if_pos (mIn_nI hj hn), nI_clamp (Nat.lt_trans hj hn)]; rfl) k
theorem mP_lald {ax : Nat × Nat × Int} {j : Nat} (hr : mIns mt pc = some (.laload, 1, ax)) (hk : mKd M a = (11, n)) (hj : j < n) (hn : n < 2 ^ 31 := by decide) (k : mP d mt (pc + 1) ls (.long (ml M a j) :: st) M Q) : mP d mt pc ls (.int (nI j) :: .ref a :: st) M Q :=
  mP_go hr (by simp only [mStep, hk, true_and, if_pos (mIn_nI hj hn), nI_clamp (Nat.lt_trans hj hn)]; rfl) k
theorem mP_bald {ax : Nat × Nat × Int} {j : Nat} (hr : mIns mt pc = some (.baload, 1, ax)) (hk : mKd M a = (12, n)) (hj : j < n) (hn : n < 2 ^ 31 := by decide) (k : mP d mt (pc + 1) ls (.int (mi M a j) :: st) M Q) : mP d mt pc ls (.int (nI j) :: .ref a :: st) M Q :=
  mP_go hr (by simp only [mStep, hk, true_and, if_pos (mIn_nI hj hn), nI_clamp (Nat.lt_trans hj hn)]; rfl) k
theorem mP_iast {ax : Nat × Nat × Int} {j : Nat} {x : Int32} (hr : mIns mt pc = some (.iastore, 1, ax)) (hk : mKd M a = (10, n)) (hj : j < n) (hn : n < 2 ^ 31 := by decide) (k : mP d mt (pc + 1) ls st (wI M a (va_up (mi M a) j x)) Q) : mP d mt pc ls (.int x :: .int (nI j) :: .ref a :: st) M Q :=
  mP_go hr (by simp only [mStep, hk, true_and, if_pos (mIn_nI hj hn), nI_clamp (Nat.lt_trans hj hn)]; rfl) k
theorem mP_last {ax : Nat × Nat × Int} {j : Nat} {x : Int64} (hr : mIns mt pc = some (.lastore, 1, ax)) (hk : mKd M a = (11, n)) (hj : j < n) (hn : n < 2 ^ 31 := by decide) (k : mP d mt (pc + 1) ls st (wL M a (va_up (ml M a) j x)) Q) : mP d mt pc ls (.long x :: .int (nI j) :: .ref a :: st) M Q :=
  mP_go hr (by simp only [mStep, hk, true_and, if_pos (mIn_nI hj hn), nI_clamp (Nat.lt_trans hj hn)]; rfl) k
theorem mP_bast {ax : Nat × Nat × Int} {j : Nat} {x : Int32} (hr : mIns mt pc = some (.bastore, 1, ax)) (hk : mKd M a = (12, n)) (hj : j < n) (hx : x = 0 ∨ x = 1) (hn : n < 2 ^ 31 := by decide) (k : mP d mt (pc + 1) ls st (wI M a (va_up (mi M a) j x)) Q) : mP d mt pc ls (.int x :: .int (nI j) :: .ref a :: st) M Q :=
  mP_go hr (by simp only [mStep, hk, true_and, if_pos (And.intro (mIn_nI hj hn) hx), nI_clamp (Nat.lt_trans hj hn)]; rfl) k
theorem mP_alen {ax : Nat × Nat × Int} (hr : mIns mt pc = some (.arraylength, 1, ax)) (hk : mKd M a = (10, n)) (k : mP d mt (pc + 1) ls (.int (nI n) :: st) M Q) : mP d mt pc ls (.ref a :: st) M Q :=
  mP_go hr (by simp only [mStep, hk, true_or, if_true]; rfl) k
theorem mP_slen {ax : Nat × Nat × Int} (hr : mIns mt pc = some (.arraylength, 1, ax)) (hk : mKd M a = (13, n)) (k : mP d mt (pc + 1) ls (.int (nI n) :: st) M Q) : mP d mt pc ls (.ref a :: st) M Q :=
  mP_go hr (by simp only [mStep, hk, or_true, if_true]; rfl) k
theorem mP_idiv {ax : Nat × Nat × Int} {x y : Int32} (hr : mIns mt pc = some (.idiv, 1, ax)) (hy : ¬ y = 0) (k : mP d mt (pc + 1) ls (.int (x / y) :: st) M Q) : mP d mt pc ls (.int y :: .int x :: st) M Q :=
  mP_go hr (by simp only [mStep, if_neg hy]; rfl) k
theorem mP_irem {ax : Nat × Nat × Int} {x y : Int32} (hr : mIns mt pc = some (.irem, 1, ax)) (hy : ¬ y = 0) (k : mP d mt (pc + 1) ls (.int (x - x / y * y) :: st) M Q) : mP d mt pc ls (.int y :: .int x :: st) M Q :=
  mP_go hr (by simp only [mStep, if_neg hy]; rfl) k
theorem mP_ldiv {ax : Nat × Nat × Int} {x y : Int64} (hr : mIns mt pc = some (.ldiv, 1, ax)) (hy : ¬ y = 0) (k : mP d mt (pc + 1) ls (.long (x / y) :: st) M Q) : mP d mt pc ls (.long y :: .long x :: st) M Q :=
  mP_go hr (by simp only [mStep, if_neg hy]; rfl) k
theorem mP_lrem {ax : Nat × Nat × Int} {x y : Int64} (hr : mIns mt pc = some (.lrem, 1, ax)) (hy : ¬ y = 0) (k : mP d mt (pc + 1) ls (.long (x - x / y * y) :: st) M Q) : mP d mt pc ls (.long y :: .long x :: st) M Q :=
  mP_go hr (by simp only [mStep, if_neg hy]; rfl) k
theorem mP_if {c : ClassFile.Cond} {off : Int} {len t b : Nat} {z : Int} {x : Int32} (hr : mIns mt pc = some (.ifCond c off, len, t, b, z)) (kt : mTest c x 0 = true → mP d mt t ls st M Q) (kf : mTest c x 0 = false → mP d mt (pc + 3) ls st M Q) : mP d mt pc ls (.int x :: st) M Q := by
  cases h : mTest c x 0 with
  | true => exact mP_go hr (by simp only [mStep, h, if_true]; rfl) (kt h)
  | false => exact mP_go hr (by simp only [mStep, h, if_false]; rfl) (kf h)
theorem mP_cmp {c : ClassFile.Cond} {off : Int} {len t b : Nat} {z : Int} {x y : Int32} (hr : mIns mt pc = some (.if_icmp c off, len, t, b, z)) (kt : mTest c x y = true → mP d mt t ls st M Q) (kf : mTest c x y = false → mP d mt (pc + 3) ls st M Q) : mP d mt pc ls (.int y :: .int x :: st) M Q := by
  cases h : mTest c x y with
  | true => exact mP_go hr (by simp only [mStep, h, if_true]; rfl) (kt h)
  | false => exact mP_go hr (by simp only [mStep, h, if_false]; rfl) (kf h)
end MRules
theorem t_isz {d : Nat} {M : mM} {Q : (Option Value ⊕ Nat) → mM → Prop} {a : Nat} (hk : mKd M a = (0, 4)) (k : Q (.inl (some (.int (mi M a 2)))) M) : mP d mCouples_size 0 [.ref a] [] M Q := by
  refine mP_go rfl rfl ?_
  refine mP_getI rfl hk ?_
  exact mP_ret rfl rfl k
theorem t_bc {d : Nat} {M : mM} {Q : (Option Value ⊕ Nat) → mM → Prop} {x : Int32} (k : ∀ y, Q (.inl (some (.int y))) M) : mP d mInteger_bitCount 0 [.int x] [] M Q := by
  repeat refine mP_go rfl rfl ?_
  exact mP_ret rfl rfl (k _)
theorem t_min {d : Nat} {M : mM} {Q : (Option Value ⊕ Nat) → mM → Prop} {x y : Int32} (k : Q (.inl (some (.int (if x ≤ y then x else y)))) M) : mP d mMath_min 0 [.int x, .int y] [] M Q := by
  repeat refine mP_go rfl rfl ?_
  refine mP_cmp rfl (fun h => ?_) (fun h => ?_)
  · repeat refine mP_go rfl rfl ?_
    simp [mTest] at h
    exact mP_ret rfl rfl (by rw [if_neg (by simpa using h)] at k; exact k)
  · repeat refine mP_go rfl rfl ?_
    simp [mTest] at h
    exact mP_ret rfl rfl (by rw [if_pos (by simpa using h)] at k; exact k)
