/-! LOCALS; the words that go with a state; the frame of a walk -/
def mIsR : Value → Bool
  | .retAddr _ => true
  | .double _ => true
  | _ => false
def mLv (b z0 : Nat) : Nat → List Value → List (Nat × Value)
  | _, [] => []
  | i, v :: l => if mIsR v = true then mLv b z0 (i + 1) l else (i, mUp b z0 v) :: mLv b z0 (i + 1) l
theorem mLv_mem {b z0 : Nat} : ∀ (l : List Value) (i j : Nat) (w : Value), (j, w) ∈ mLv b z0 i l ↔ ∃ k, j = i + k ∧ k < l.length ∧ mIsR (mNth l k) = false ∧ w = mUp b z0 (mNth l k) := by
  intro l
  induction l with
  | nil => intro i j w; simp [mLv]
  | cons v l ih =>
    intro i j w
    have hc : (∃ k, j = i + k ∧ k < (v :: l).length ∧ mIsR (mNth (v :: l) k) = false ∧ w = mUp b z0 (mNth (v :: l) k)) ↔ ((j = i ∧ mIsR v = false ∧ w = mUp b z0 v) ∨ ∃ k, j = i + 1 + k ∧ k < l.length ∧ mIsR (mNth l k) = false ∧ w = mUp b z0 (mNth l k)) := by
      constructor
      · rintro ⟨k, h1, h2, h3, h4⟩
        cases k with
        | zero => exact Or.inl ⟨h1, h3, h4⟩
        | succ k => exact Or.inr ⟨k, by omega, by simpa using h2, h3, h4⟩
      · rintro (⟨h1, h3, h4⟩ | ⟨k, h1, h2, h3, h4⟩)
        · exact ⟨0, h1, by simp, h3, h4⟩
        · exact ⟨k + 1, by omega, by simpa using h2, h3, h4⟩
    rw [hc]
    unfold mLv
    cases hv : mIsR v with
    | true => simp [ih]
    | false => simp [ih]
theorem mNth_out : ∀ (l : List Value) (k : Nat), l.length ≤ k → mNth l k = .retAddr 0 := by
  intro l
  induction l with
  | nil => intro k _; rfl
  | cons v l ih =>
    intro k h
    cases k with
    | zero => simp at h
    | succ k => exact ih k (by simpa using h)
theorem mNth_lt {l : List Value} {k : Nat} (h : mIsR (mNth l k) = false) : k < l.length := by
  rcases Nat.lt_or_ge k l.length with q | q
  · exact q
  · rw [mNth_out l k q] at h; cases h
theorem mSto_len : ∀ (l : List Value) (i : Nat) (v : Value), (mSto l i v).length = l.length := by
  intro l
  induction l with
  | nil => intro i v; cases i <;> rfl
  | cons w l ih =>
    intro i v
    match i with
    | 0 => rfl
    | 1 => simp [mSto, ih]
    | n + 2 => simp [mSto, ih]
theorem mUns_len : ∀ (l : List Value) (i : Nat), (mUns l i).length = l.length := by
  intro l
  induction l with
  | nil => intro i; cases i <;> rfl
  | cons w l ih =>
    intro i
    cases i with
    | zero => rfl
    | succ n => simp [mUns, ih]
theorem mNth_sto : ∀ (l : List Value) (i : Nat) (v : Value) (k : Nat), i < l.length → mNth (mSto l i v) k = if k = i then v else if k + 1 = i then mCl (mNth l k) else mNth l k := by
  intro l
  induction l with
  | nil => intro i v k h; simp at h
  | cons w l ih =>
    intro i v k h
    match i, h with
    | 0, h => cases k with
      | zero => rfl
      | succ k => simp [mSto, mNth]
    | 1, h => cases k with
      | zero => simp [mSto, mNth]
      | succ k =>
        have := ih 0 v k (by simpa using h)
        simp only [mSto, mNth, this]
        by_cases hk : k = 0
        · simp [hk]
        · simp [hk]
    | n + 2, h => cases k with
      | zero => simp [mSto, mNth]
      | succ k =>
        have := ih (n + 1) v k (by have h2 : n + 2 < l.length + 1 := by simpa using h
                                   omega)
        simp only [mSto, mNth, this]
        by_cases hk : k = n + 1
        · simp [hk]
        · by_cases hk2 : k + 1 = n + 1
          · simp [hk, hk2]
          · simp [hk, hk2]
theorem mNth_uns : ∀ (l : List Value) (i k : Nat), mNth (mUns l i) k = if k = i then .retAddr 0 else mNth l k := by
  intro l
  induction l with
  | nil => intro i k; cases i <;> cases k <;> simp [mUns, mNth]
  | cons w l ih =>
    intro i k
    cases i with
    | zero => cases k with
      | zero => rfl
      | succ k => simp [mUns, mNth]
    | succ n => cases k with
      | zero => simp [mUns, mNth]
      | succ k => simp [mUns, mNth, ih]
def mLR (b z0 n : Nat) (l : List Value) (ls : Array Slot) : Prop := l.length = n ∧ lv_has ls n (mLv b z0 0 l)
section MLoc
variable {b z0 n : Nat} {l : List Value} {ls ls' : Array Slot}
theorem mLR.at (h : mLR b z0 n l ls) {k : Nat} {v : Value} (hv : mNth l k = v) (hr : mIsR v = false) : ls[k]? = some (.val (mUp b z0 v)) := by
  subst hv
  exact h.2.2.2 (k, mUp b z0 (mNth l k)) ((mLv_mem l 0 k _).mpr ⟨k, by omega, mNth_lt hr, hr, rfl⟩)
theorem mCl_isR {v : Value} (h : mIsR (mCl v) = false) : mCl v = v ∧ v.category = 1 ∧ mIsR v = false := by
  cases v <;> simp [mCl, mIsR, Value.category] at h ⊢
theorem mLR.sto1 (h : mLR b z0 n l ls) {i : Nat} {v : Value} (hi : i < n) (hs : lv_has ls' n ((i, mUp b z0 v) :: (mLv b z0 0 l).filter (fun q => !(q.1 == i) && !(q.1 + 1 == i && q.2.category == 2)))) : mLR b z0 n (mSto l i v) ls' := by
  refine ⟨by rw [mSto_len]; exact h.1, hs.1, hs.2.1, ?_⟩
  rintro ⟨j, w⟩ hq
  obtain ⟨k, e1, e2, e3, e4⟩ := (mLv_mem _ 0 j w).mp hq
  have hjk : j = k := by omega
  subst hjk
  rw [mNth_sto l i v j (by rw [h.1]; exact hi)] at e3 e4
  refine hs.2.2 (j, w) ?_
  by_cases hk : j = i
  · rw [if_pos hk] at e4
    subst hk
    rw [e4]
    exact List.mem_cons_self
  · rw [if_neg hk] at e3 e4
    refine List.mem_cons_of_mem _ (List.mem_filter.mpr ?_)
    by_cases hk2 : j + 1 = i
    · rw [if_pos hk2] at e3 e4
      obtain ⟨q1, q2, q3⟩ := mCl_isR e3
      rw [q1] at e4
      refine ⟨(mLv_mem l 0 j w).mpr ⟨j, by omega, mNth_lt q3, q3, e4⟩, ?_⟩
      rw [e4]
      simp [hk, mUp_cat, q2]
    · rw [if_neg hk2] at e3 e4
      exact ⟨(mLv_mem l 0 j w).mpr ⟨j, by omega, mNth_lt e3, e3, e4⟩, by simp [hk, hk2]⟩
theorem mLR.sto2 (h : mLR b z0 n l ls) {i : Nat} {v : Value} (hi : i + 1 < n) (hs : lv_has ls' n ((i, mUp b z0 v) :: (mLv b z0 0 l).filter (fun q => !(q.1 == i) && (!(q.1 == i + 1) && !(q.1 + 1 == i && q.2.category == 2))))) : mLR b z0 n (mUns (mSto l i v) (i + 1)) ls' := by
  refine ⟨by rw [mUns_len, mSto_len]; exact h.1, hs.1, hs.2.1, ?_⟩
  rintro ⟨j, w⟩ hq
  obtain ⟨k, e1, e2, e3, e4⟩ := (mLv_mem _ 0 j w).mp hq
  have hjk : j = k := by omega
  subst hjk
  rw [mNth_uns] at e3 e4
  by_cases hn : j = i + 1
  · rw [if_pos hn] at e3; cases e3
  rw [if_neg hn] at e3 e4
  rw [mNth_sto l i v j (by rw [h.1]; omega)] at e3 e4
  refine hs.2.2 (j, w) ?_
  by_cases hk : j = i
  · rw [if_pos hk] at e4
    subst hk
    rw [e4]
    exact List.mem_cons_self
  · rw [if_neg hk] at e3 e4
    refine List.mem_cons_of_mem _ (List.mem_filter.mpr ?_)
    by_cases hk2 : j + 1 = i
    · rw [if_pos hk2] at e3 e4
      obtain ⟨q1, q2, q3⟩ := mCl_isR e3
      rw [q1] at e4
      refine ⟨(mLv_mem l 0 j w).mpr ⟨j, by omega, mNth_lt q3, q3, e4⟩, ?_⟩
      rw [e4]
      simp [hk, hn, mUp_cat, q2]
    · rw [if_neg hk2] at e3 e4
      exact ⟨(mLv_mem l 0 j w).mpr ⟨j, by omega, mNth_lt e3, e3, e4⟩, by simp [hk, hk2, hn]⟩
end MLoc
