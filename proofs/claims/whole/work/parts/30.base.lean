/-! THE PURE PART begins: rules for calls, numbers, the memory's rows -/
theorem mStep_d {d d2 mt pc : Nat} {r : Instr × Nat × Nat × Nat × Int} {ls st : List Value} {M : mM} {x : mO} (hd : d ≤ d2) (h : mStep d mt r pc ls st M = some x) : mStep d2 mt r pc ls st M = some x := by
  obtain ⟨i, len, a1, a2, a3⟩ := r
  cases i with
  | invokespecial ix =>
    simp only [mStep] at h ⊢
    split at h
    · rename_i h5
      rw [if_pos h5]
      split at h
      · rename_i a st1
        by_cases hc : 1 ≤ d ∧ mCat st1 ≤ 8
        · rw [if_pos hc] at h
          rw [if_pos ⟨by omega, hc.2⟩]
          exact h
        · rw [if_neg hc] at h; cases h
      · cases h
    · rename_i h5
      rw [if_neg h5]
      exact h
  | _ => exact h
theorem mRun_d : ∀ n d mt pc ls st M x, mRun n d mt pc ls st M = some x → mRun n (d + 1) mt pc ls st M = some x := by
  intro n
  induction n with
  | zero => intro d mt pc ls st M x h; cases h
  | succ n ih =>
    intro d mt pc ls st M x h
    have h : mBody (mRun n) d mt pc ls st M = some x := h
    show mBody (mRun n) (d + 1) mt pc ls st M = some x
    unfold mBody at h ⊢
    cases hr : mIns mt pc with
    | none => simp only [hr] at h; cases h
    | some r =>
      simp only [hr] at h ⊢
      cases hs : mStep d mt r pc ls st M with
      | none => simp only [hs] at h; cases h
      | some o =>
        have hs2 := mStep_d (Nat.le_succ d) hs
        simp only [hs] at h
        simp only [hs2]
        match o, h with
        | .inl (pc', ls', st', M'), h => exact ih _ _ _ _ _ _ _ h
        | .inr (.inl (y, as, rest)), h =>
          match d, h with
          | 0, h => cases h
          | d' + 1, h =>
            simp only at h ⊢
            cases hc : mRun n d' y 0 (mEntry y as) [] M with
            | none => simp only [hc] at h; cases h
            | some q =>
              simp only [hc] at h
              simp only [ih _ _ _ _ _ _ _ hc]
              match q, h with
              | (.inl v, M'), h => exact ih _ _ _ _ _ _ _ h
              | (.inr ex, M'), h =>
                simp only at h ⊢
                cases hm : mCatch mt pc ex with
                | none => simp only [hm] at h; cases h
                | some hh =>
                  simp only [hm] at h ⊢
                  exact ih _ _ _ _ _ _ _ h
        | .inr (.inr (.inl v)), h => exact h
        | .inr (.inr (.inr ex)), h =>
          simp only at h ⊢
          split at h
          · rw [if_pos (by omega)]; exact h
          · cases h
theorem mP_d {d mt pc : Nat} {ls st : List Value} {M : mM} {Q : (Option Value ⊕ Nat) → mM → Prop} (h : mP d mt pc ls st M Q) (k : Nat) : mP (d + k) mt pc ls st M Q := by
  induction k with
  | zero => exact h
  | succ k ih =>
    obtain ⟨n, x, h1, h2⟩ := ih
    exact ⟨n, x, mRun_d _ _ _ _ _ _ _ _ h1, h2⟩
/-- the call of y with these arguments in this memory answers v and leaves that memory -/
def mR (d y : Nat) (as : List Value) (M : mM) (v : Option Value) (M2 : mM) : Prop := mP d y 0 (mEntry y as) [] M (fun o M' => o = .inl v ∧ M' = M2)
theorem mR.up {d y : Nat} {as : List Value} {M M2 : mM} {v : Option Value} (h : mR d y as M v M2) (k : Nat) : mR (d + k) y as M v M2 := mP_d h k
section MRules2
variable {d mt pc : Nat} {ls st rest as : List Value} {M M2 : mM} {Q : (Option Value ⊕ Nat) → mM → Prop} {ix y b n : Nat} {z : Int} {v : Option Value}
theorem mP_ret2 {o : Option Value ⊕ Nat} {M' : mM} (h1 : o = .inl v) (h2 : M' = M2) : (fun o M' => o = Sum.inl v ∧ M' = M2) o M' := ⟨h1, h2⟩
theorem mR_call {r : Instr × Nat × Nat × Nat × Int} (hr : mIns mt pc = some r) (hs : mStep (d + 1) mt r pc ls st M = some (.inr (.inl (y, as, rest)))) (hR : mR d y as M v M2) (k : mP (d + 1) mt (pc + 3) ls (v.toList ++ rest) M2 Q) : mP (d + 1) mt pc ls st M Q := by
  refine mP_call hr hs (mP_mono hR ?_)
  rintro o M' ⟨rfl, rfl⟩
  exact k
theorem mP_V (hr : mIns mt pc = some (.invokevirtual ix, 3, 0, y, z)) (ht : mTake (mPar y) [] st = some (as, .ref b :: rest)) (hk : mKd M b = (mOwn y, n)) (hcat : (decide (mCat rest ≤ 8) && decide ((mArgs as).length + 1 ≤ mMax y)) = true) (hR : mR d y (.ref b :: as) M v M2) (k : mP (d + 1) mt (pc + 3) ls (v.toList ++ rest) M2 Q) : mP (d + 1) mt pc ls st M Q :=
  mR_call hr (by simp only [Bool.and_eq_true, decide_eq_true_eq] at hcat; simp only [mStep, mInv, ht, hk]; simp [hcat]) hR k
theorem mP_I3 (hr : mIns mt pc = some (.invokespecial ix, 3, 3, y, z)) (ht : mTake (mPar y) [] st = some (as, .ref b :: rest)) (hk : mKd M b = (mOwn y, n)) (hcat : (decide (mCat rest ≤ 8) && decide ((mArgs as).length + 1 ≤ mMax y)) = true) (hR : mR d y (.ref b :: as) M v M2) (k : mP (d + 1) mt (pc + 3) ls (v.toList ++ rest) M2 Q) : mP (d + 1) mt pc ls st M Q :=
  mR_call hr (by simp only [Bool.and_eq_true, decide_eq_true_eq] at hcat; simp only [mStep, mInv, ht, hk]; simp [hcat]) hR k
theorem mP_I4 (hr : mIns mt pc = some (.invokespecial ix, 3, 4, y, z)) (ht : mTake (mPar y) [] st = some (as, .ref b :: rest)) (hk : mKd M b = (mOwn y, n)) (hcat : (decide (mCat rest ≤ 8) && decide ((mArgs as).length + 1 ≤ mMax y)) = true) (hR : mR d y (.ref b :: as) M v M2) (k : mP (d + 1) mt (pc + 3) ls (v.toList ++ rest) M2 Q) : mP (d + 1) mt pc ls st M Q :=
  mR_call hr (by simp only [Bool.and_eq_true, decide_eq_true_eq] at hcat; simp only [mStep, mInv, ht, hk]; simp [hcat]) hR k
theorem mP_S (hr : mIns mt pc = some (.invokestatic ix, 3, 2, y, z)) (ht : mTake (mPar y) [] st = some (as, rest)) (hcat : (decide (mCat rest ≤ 8) && decide ((mArgs as).length ≤ mMax y)) = true) (hR : mR d y as M v M2) (k : mP (d + 1) mt (pc + 3) ls (v.toList ++ rest) M2 Q) : mP (d + 1) mt pc ls st M Q :=
  mR_call hr (by simp only [Bool.and_eq_true, decide_eq_true_eq] at hcat; simp only [mStep, mInv, ht]; simp [hcat]) hR k
theorem mP_retB {x : Int32} {ax : Nat × Nat × Int} (hr : mIns mt pc = some (.ireturn, 1, ax)) (hm : mRet mt = some .boolean) (hv : x = 0 ∨ x = 1) (k : Q (.inl (some (.int x))) M) : mP d mt pc ls [.int x] M Q :=
  mP_ret hr (by simp only [mStep, hm, hv]; simp) k
end MRules2
/-! numbers -/
theorem nI_iI (n : Nat) : nI n = iI (n : Int) := by
  show Int32.ofNat n = Int32.ofInt n
  exact (Int32.ofInt_eq_ofNat).symm
theorem iI_lit (n : Nat) [NeZero n] : iI (OfNat.ofNat n : Int) = nI n := (nI_iI n).symm
theorem iI_0 : iI 0 = nI 0 := rfl
theorem iI_1 : iI 1 = nI 1 := rfl
theorem nI_inj {a b : Nat} (ha : a < 2 ^ 31) (hb : b < 2 ^ 31) : nI a = nI b ↔ a = b := nI_eq ha hb
def bI (b : Bool) : Int32 := if b then 1 else 0
theorem bI_01 (b : Bool) : bI b = 0 ∨ bI b = 1 := by cases b <;> simp [bI]
/-- rows of a written memory -/
theorem mi_wI (M : mM) (a : Nat) (f : Nat → Int32) (b : Nat) : mi (wI M a f) b = if b = a then f else mi M b := rfl
theorem ml_wI (M : mM) (a : Nat) (f : Nat → Int32) : ml (wI M a f) = ml M := rfl
theorem mr_wI (M : mM) (a : Nat) (f : Nat → Int32) : mr (wI M a f) = mr M := rfl
theorem mi_wL (M : mM) (a : Nat) (f : Nat → Int64) : mi (wL M a f) = mi M := rfl
theorem ml_wL (M : mM) (a : Nat) (f : Nat → Int64) (b : Nat) : ml (wL M a f) b = if b = a then f else ml M b := rfl
theorem mr_wL (M : mM) (a : Nat) (f : Nat → Int64) : mr (wL M a f) = mr M := rfl
theorem wI_wI (M : mM) (a : Nat) (f g : Nat → Int32) : wI (wI M a f) a g = wI M a g := by
  unfold wI
  simp only [bx_uu]
theorem wI_comm (M : mM) (a b : Nat) (f g : Nat → Int32) (h : a ≠ b) : wI (wI M a f) b g = wI (wI M b g) a f := by
  unfold wI
  simp only [Prod.mk.injEq, true_and, and_true]
  funext j
  simp only [va_up]
  by_cases h1 : j = b
  · by_cases h2 : j = a
    · omega
    · simp [h1, h2, Ne.symm h]
  · simp [h1]
theorem wL_wL (M : mM) (a : Nat) (f g : Nat → Int64) : wL (wL M a f) a g = wL M a g := by
  unfold wL
  simp only [bx_uu]
theorem wI_self (M : mM) (a : Nat) : wI M a (mi M a) = M := by
  obtain ⟨x1, x2, x3, x4, x5, x6⟩ := M
  unfold wI mi
  simp only [Prod.mk.injEq, true_and, and_true]
  funext j
  by_cases h : j = a <;> simp [va_up, h]
theorem down {C : Nat → Prop} {n : Nat} (h : C n) (hs : ∀ i, i < n → C (i + 1) → C i) : ∀ i, i ≤ n → C i := by
  intro i hi
  have key : ∀ k, k ≤ n → C (n - k) := by
    intro k
    induction k with
    | zero => intro _; exact h
    | succ k ih =>
      intro hk
      have h1 := ih (by omega)
      have e : n - k = (n - (k + 1)) + 1 := by omega
      rw [e] at h1
      exact hs _ (by omega) h1
  have := key (n - i) (by omega)
  rwa [Nat.sub_sub_self hi] at this
theorem iI_add (a b : Int) : iI a + iI b = iI (a + b) := (Int32.ofInt_add a b).symm
theorem iI_sub (a b : Int) : iI a - iI b = iI (a - b) := (Int32.ofInt_sub a b).symm
theorem iI_mul (a b : Int) : iI a * iI b = iI (a * b) := (Int32.ofInt_mul a b).symm
theorem iI_neg (a : Int) : - iI a = iI (-a) := (Int32.ofInt_neg a).symm
theorem iI_toInt {a : Int} (h : -2 ^ 31 ≤ a) (h2 : a < 2 ^ 31) : (iI a).toInt = a := Int32.toInt_ofInt_of_le h h2
theorem iI_lt {a b : Int} (ha : -2 ^ 31 ≤ a) (ha2 : a < 2 ^ 31) (hb : -2 ^ 31 ≤ b) (hb2 : b < 2 ^ 31) : iI a < iI b ↔ a < b := by
  rw [Int32.lt_iff_toInt_lt, iI_toInt ha ha2, iI_toInt hb hb2]
theorem iI_le {a b : Int} (ha : -2 ^ 31 ≤ a) (ha2 : a < 2 ^ 31) (hb : -2 ^ 31 ≤ b) (hb2 : b < 2 ^ 31) : iI a ≤ iI b ↔ a ≤ b := by
  rw [Int32.le_iff_toInt_le, iI_toInt ha ha2, iI_toInt hb hb2]
theorem iI_eq {a b : Int} (ha : -2 ^ 31 ≤ a) (ha2 : a < 2 ^ 31) (hb : -2 ^ 31 ≤ b) (hb2 : b < 2 ^ 31) : iI a = iI b ↔ a = b := by
  constructor
  · intro h
    have := congrArg Int32.toInt h
    rwa [iI_toInt ha ha2, iI_toInt hb hb2] at this
  · intro h; rw [h]
theorem iI_self (x : Int32) : iI x.toInt = x := Int32.ofInt_toInt x
