/-! THE TIE: what of the real heap a memory tells -/
def mAd (b z0 k : Nat) : Nat := if k = 0 then b else z0 + (k - 1)
def mUp (b z0 : Nat) : Value → Value
  | .ref k => .ref (mAd b z0 k)
  | v => v
theorem mUp_cat (b z0 : Nat) (v : Value) : (mUp b z0 v).category = v.category := by cases v <;> rfl
def mTyOf (ci : Nat) : Nat → FieldType := if ci = 0 then mTy0 else if ci = 1 then mTy1 else if ci = 2 then mTy2 else if ci = 3 then mTy3 else if ci = 4 then mTy4 else if ci = 5 then mTy5 else mTy6
def mTOf (ci : Nat) : u_T := if ci = 0 then mT0 else if ci = 1 then mT1 else if ci = 2 then mT2 else if ci = 3 then mT3 else if ci = 4 then mT4 else if ci = 5 then mT5 else mT6
def mSz (ci : Nat) : Nat := if ci = 0 then 4 else if ci = 1 then 5 else if ci = 2 then 4 else if ci = 3 then 6 else if ci = 4 then 12 else if ci = 5 then 5 else 27
def mNm (ci : Nat) : String := mOwnN ci
def mTag (ty : FieldType) : Nat := match ty with
  | .int => 0
  | .long => 1
  | _ => 2
def mExN (k : Nat) : String := if k = 7 then "java/lang/IllegalArgumentException" else if k = 8 then "java/lang/IllegalStateException" else "java/util/NoSuchElementException"
theorem mCl_at : ∀ ci, ci < 7 → mClasses[ci]? = some (mNm ci, mTOf ci, mSz ci) := by
  intro ci h
  match ci, h with
  | 0, _ => rfl
  | 1, _ => rfl
  | 2, _ => rfl
  | 3, _ => rfl
  | 4, _ => rfl
  | 5, _ => rfl
  | 6, _ => rfl
theorem mCl_in : ∀ ci, ci < 7 → ∀ w ∈ u_ws (mNm ci) (mTOf ci) (mSz ci), w ∈ lw_tbl := by
  intro ci h
  match ci, h with
  | 0, _ => exact mIn0
  | 1, _ => exact mIn1
  | 2, _ => exact mIn2
  | 3, _ => exact mIn3
  | 4, _ => exact mIn4
  | 5, _ => exact mIn5
  | 6, _ => exact mIn6
theorem mCl_nm : ∀ ci, ci < 7 → ∀ a, a < mSz ci → ∀ b, b < mSz ci → a ≠ b → (mTOf ci a).2.1 ≠ (mTOf ci b).2.1 := by
  intro ci h
  match ci, h with
  | 0, _ => exact mNm0
  | 1, _ => exact mNm1
  | 2, _ => exact mNm2
  | 3, _ => exact mNm3
  | 4, _ => exact mNm4
  | 5, _ => exact mNm5
  | 6, _ => exact mNm6
theorem mCl_ty : ∀ ci, ci < 7 → ∀ k, k < mSz ci → parseFieldDescriptor (mTOf ci k).2.2.1 = some (mTyOf ci k) := by
  intro ci h
  match ci, h with
  | 0, _ => exact mTyOk0
  | 1, _ => exact mTyOk1
  | 2, _ => exact mTyOk2
  | 3, _ => exact mTyOk3
  | 4, _ => exact mTyOk4
  | 5, _ => exact mTyOk5
  | 6, _ => exact mTyOk6
section MRel
variable (D : va_G) (AC EC : Nat → ClassId) (b z0 : Nat) (H0 : Heap)
def mVal (ty : FieldType) (x : Int32) (y : Int64) (r : Option Nat) : Value := match mTag ty with
  | 0 => .int x
  | 1 => .long y
  | _ => mUp b z0 (mRv r)
def mCell (kn : Nat × Nat) (fi : Nat → Int32) (fl : Nat → Int64) (fr : Nat → Option Nat) (a : Nat) (H : Heap) : Prop :=
  if kn.1 = 10 then H[a]? = some (arrV (AC 0) kn.2 (fun j => .int (fi j)))
  else if kn.1 = 11 then H[a]? = some (arrV (AC 1) kn.2 (fun j => .long (fl j)))
  else if kn.1 = 12 then H[a]? = some (arrV (AC 2) kn.2 (fun j => .int (fi j)))
  else if kn.1 < 7 then t_OB a (D.1 kn.1) (mSz kn.1) (D.2 kn.1) H (fun j => mVal b z0 (mTyOf kn.1 j) (fi j) (fl j) (fr j))
  else if kn.1 = 13 then False
  else ∃ cell : Cell, H[a]? = some cell ∧ cell.vm = .none ∧ cell.cls = EC kn.1
def mRel (s : State) (M : mM) (H : Heap) : Prop :=
  1 ≤ mLn M ∧ H.size = z0 + (mLn M - 1) ∧ ((mK M 0).1 = 13 ∧ (mK M 0).2 < 2 ^ 31 ∧ va_X b (mK M 0).2 (mi M 0) s H) ∧ b < z0 ∧ (∀ k, 1 ≤ k → k < mLn M → mCell D AC EC b z0 (mK M k) (mi M k) (ml M k) (mr M k) (mAd b z0 k) H) ∧ (∀ q, q < z0 → H[q]? = H0[q]?)
def mKnow (s : State) : Prop := va_K D mClasses [(AC 0, .int), (AC 1, .long), (AC 2, .boolean)] s ∧ ∀ k, 7 ≤ k → k < 10 → s.vm.findClass (mExN k) = some (EC k)
end MRel
section MRel2
variable {D : va_G} {AC EC : Nat → ClassId} {b z0 : Nat} {H0 : Heap}
theorem mAd_inj {k j : Nat} (hb : b < z0) (h : mAd b z0 k = mAd b z0 j) : k = j := by
  unfold mAd at h
  split at h <;> split at h <;> omega
theorem mAd_pos {k : Nat} (hk : 1 ≤ k) : mAd b z0 k = z0 + (k - 1) := by
  unfold mAd
  rw [if_neg (by omega)]
theorem mCell.kept {kn : Nat × Nat} {fi : Nat → Int32} {fl : Nat → Int64} {fr : Nat → Option Nat} {a : Nat} {H H1 : Heap} (h : mCell D AC EC b z0 kn fi fl fr a H) (hq : H1[a]? = H[a]?) : mCell D AC EC b z0 kn fi fl fr a H1 := by
  unfold mCell at h ⊢
  split
  · rename_i c; rw [if_pos c] at h; rw [hq]; exact h
  · rename_i c; rw [if_neg c] at h
    split
    · rename_i c; rw [if_pos c] at h; rw [hq]; exact h
    · rename_i c; rw [if_neg c] at h
      split
      · rename_i c; rw [if_pos c] at h; rw [hq]; exact h
      · rename_i c; rw [if_neg c] at h
        split
        · rename_i c; rw [if_pos c] at h; exact h.kept hq
        · rename_i c; rw [if_neg c] at h
          split
          · rename_i c; rw [if_pos c] at h; exact h
          · rename_i c; rw [if_neg c] at h; rw [hq]; exact h
theorem va_X_kept {L : Nat} {xs : Nat → Int32} {s : State} {H H1 : Heap} (h : va_X b L xs s H) (hq : H1[b]? = H[b]?) : va_X b L xs s H1 := by
  obtain ⟨scr, h1, h2⟩ := h
  exact ⟨scr, by rw [hq]; exact h1, h2⟩
/-- one cell changed -/
theorem mRel.set {s : State} {M M2 : mM} {H H' : Heap} {k : Nat} (h : mRel D AC EC b z0 H0 s M H) (hk : 1 ≤ k) (hk2 : k < mLn M) (e1 : mLn M2 = mLn M) (e2 : mK M2 = mK M) (e3 : ∀ j, j ≠ k → mi M2 j = mi M j ∧ ml M2 j = ml M j ∧ mr M2 j = mr M j)
    (hc : mCell D AC EC b z0 (mK M k) (mi M2 k) (ml M2 k) (mr M2 k) (mAd b z0 k) H') (hs : H'.size = H.size) (ho : ∀ q, q ≠ mAd b z0 k → H'[q]? = H[q]?) : mRel D AC EC b z0 H0 s M2 H' := by
  obtain ⟨h1, h2, ⟨h3, h3', h3''⟩, h4, h5, h6⟩ := h
  have hne : ∀ q, q < z0 → q ≠ mAd b z0 k := fun q hq => by rw [mAd_pos hk]; omega
  refine ⟨by rw [e1]; exact h1, by rw [hs, e1]; exact h2, ⟨by rw [e2]; exact h3, by rw [e2]; exact h3', ?_⟩, h4, ?_, fun q hq => by rw [ho q (hne q hq)]; exact h6 q hq⟩
  · rw [e2, (e3 0 (by omega)).1]
    exact va_X_kept h3'' (ho b (hne b h4))
  · intro j hj hj2
    rw [e2]
    by_cases hjk : j = k
    · subst hjk
      exact hc
    · obtain ⟨q1, q2, q3⟩ := e3 j hjk
      rw [q1, q2, q3]
      exact (h5 j hj (by rw [← e1]; exact hj2)).kept (ho _ (fun q => hjk (mAd_inj h4 q)))
/-- one cell more -/
theorem mRel.push {s : State} {M : mM} {H H' : Heap} {kd n : Nat} (h : mRel D AC EC b z0 H0 s M H)
    (hc : mCell D AC EC b z0 (kd, n) (fun _ => 0) (fun _ => 0) (fun _ => none) H.size H') (hs : H'.size = H.size + 1) (ho : ∀ q, q < H.size → H'[q]? = H[q]?) : mRel D AC EC b z0 H0 s (mNew M kd n) H' := by
  obtain ⟨h1, h2, ⟨h3, h3', h3''⟩, h4, h5, h6⟩ := h
  have e0 : ∀ {α : Type} (f : Nat → α) (v : α) (j : Nat), j ≠ M.1 → va_up f M.1 v j = f j := fun f v j hj => by simp [va_up, hj]
  have ee : ∀ {α : Type} (f : Nat → α) (v : α), va_up f M.1 v M.1 = v := fun f v => by simp [va_up]
  have h1' : 1 ≤ M.1 := h1
  have hn0 : (0 : Nat) ≠ M.1 := by omega
  refine ⟨Nat.le_add_left 1 M.1, ?_, ?_, h4, ?_, fun q hq => by rw [ho q (by omega)]; exact h6 q hq⟩
  · rw [hs, h2]
    show z0 + (M.1 - 1) + 1 = z0 + (M.1 + 1 - 1)
    omega
  · refine ⟨?_, ?_, ?_⟩
    · show (va_up M.2.2.1 M.1 (kd, n) 0).1 = 13
      rw [e0 _ _ 0 hn0]; exact h3
    · show (va_up M.2.2.1 M.1 (kd, n) 0).2 < 2 ^ 31
      rw [e0 _ _ 0 hn0]; exact h3'
    · show va_X b (va_up M.2.2.1 M.1 (kd, n) 0).2 (va_up M.2.2.2.1 M.1 (fun _ => 0) 0) s H'
      rw [e0 _ _ 0 hn0, e0 _ _ 0 hn0]
      exact va_X_kept h3'' (ho b (by omega))
  · intro j hj hj2
    have hj3 : j < M.1 + 1 := hj2
    show mCell D AC EC b z0 (va_up M.2.2.1 M.1 (kd, n) j) (va_up M.2.2.2.1 M.1 (fun _ => 0) j) (va_up M.2.2.2.2.1 M.1 (fun _ => 0) j) (va_up M.2.2.2.2.2 M.1 (fun _ => none) j) (mAd b z0 j) H'
    by_cases hjk : j = M.1
    · subst hjk
      rw [ee, ee, ee, ee, mAd_pos hj]
      have : z0 + (M.1 - 1) = H.size := h2.symm
      rw [this]
      exact hc
    · rw [e0 _ _ j hjk, e0 _ _ j hjk, e0 _ _ j hjk, e0 _ _ j hjk]
      have hjl : j < mLn M := by show j < M.1; omega
      refine (h5 j hj hjl).kept (ho _ ?_)
      rw [mAd_pos hj, h2]
      show z0 + (j - 1) < z0 + (M.1 - 1)
      omega
theorem mKnow.moved {u U : State} (hvm : u.vm.Alike U.vm) (h : mKnow D AC EC u) : mKnow D AC EC U := ⟨va_K.moved hvm h.1, fun k h1 h2 => by rw [hvm.findClass]; exact h.2 k h1 h2⟩
theorem va_X_moved {L : Nat} {xs : Nat → Int32} {u U : State} {H : Heap} (hvm : u.vm.Alike U.vm) (h : va_X b L xs u H) : va_X b L xs U H := by
  obtain ⟨scr, h1, ⟨q1, k, hk, comp, hkind⟩, h3⟩ := h
  obtain ⟨k', hk', he⟩ := hvm.2.2 _ _ hk
  exact ⟨scr, h1, ⟨q1, k', hk', comp, by rw [he]; exact hkind⟩, h3⟩
theorem mRel.moved {u U : State} {M : mM} {H : Heap} (hvm : u.vm.Alike U.vm) (h : mRel D AC EC b z0 H0 u M H) : mRel D AC EC b z0 H0 U M H := by
  obtain ⟨h1, h2, ⟨h3, h3', h3''⟩, h4⟩ := h
  exact ⟨h1, h2, ⟨h3, h3', va_X_moved hvm h3''⟩, h4⟩
end MRel2
