/-! THE MIDDLE MACHINE: a plain interpreter of the resolved rows over a plain memory; addresses are places (0: the script; then the cells in the order of their making). What it answers is tied to the real machine once, in later parts. -/
def iI (n : Int) : Int32 := Int32.ofInt n
def lI (n : Int) : Int64 := Int64.ofInt n
/-- cells, slots made in all, kinds (kind, size), ints, longs, references -/
abbrev mM : Type := Nat × Nat × (Nat → Nat × Nat) × (Nat → Nat → Int32) × (Nat → Nat → Int64) × (Nat → Nat → Option Nat)
def mLn (M : mM) : Nat := M.1
def mSl (M : mM) : Nat := M.2.1
def mK (M : mM) : Nat → Nat × Nat := M.2.2.1
def mi (M : mM) : Nat → Nat → Int32 := M.2.2.2.1
def ml (M : mM) : Nat → Nat → Int64 := M.2.2.2.2.1
def mr (M : mM) : Nat → Nat → Option Nat := M.2.2.2.2.2
def wI (M : mM) (a : Nat) (f : Nat → Int32) : mM := (M.1, M.2.1, M.2.2.1, va_up M.2.2.2.1 a f, M.2.2.2.2.1, M.2.2.2.2.2)
def wL (M : mM) (a : Nat) (f : Nat → Int64) : mM := (M.1, M.2.1, M.2.2.1, M.2.2.2.1, va_up M.2.2.2.2.1 a f, M.2.2.2.2.2)
def wR (M : mM) (a : Nat) (f : Nat → Option Nat) : mM := (M.1, M.2.1, M.2.2.1, M.2.2.2.1, M.2.2.2.2.1, va_up M.2.2.2.2.2 a f)
def mNew (M : mM) (kd n : Nat) : mM := (M.1 + 1, M.2.1 + n, va_up M.2.2.1 M.1 (kd, n), va_up M.2.2.2.1 M.1 (fun _ => 0), va_up M.2.2.2.2.1 M.1 (fun _ => 0), va_up M.2.2.2.2.2 M.1 (fun _ => none))
/-- the kind and size of a cell; 99 where there is none -/
def mKd (M : mM) (k : Nat) : Nat × Nat := if k < mLn M then mK M k else (99, 0)
def mRv : Option Nat → Value
  | none => .null
  | some a => .ref a
def mNth : List Value → Nat → Value
  | [], _ => .retAddr 0
  | v :: _, 0 => v
  | _ :: l, n + 1 => mNth l n
def mCl : Value → Value
  | .long _ => .retAddr 0
  | v => v
def mSto : List Value → Nat → Value → List Value
  | [], _, _ => []
  | _ :: l, 0, v => v :: l
  | w :: l, 1, v => mCl w :: mSto l 0 v
  | w :: l, n + 2, v => w :: mSto l (n + 1) v
def mUns : List Value → Nat → List Value
  | [], _ => []
  | _ :: l, 0 => .retAddr 0 :: l
  | w :: l, n + 1 => w :: mUns l n
def mArg1 : Value → List Value
  | .long x => [.long x, .retAddr 0]
  | .double x => [.double x, .retAddr 0]
  | v => [v]
def mArgs : List Value → List Value
  | [] => []
  | v :: l => mArg1 v ++ mArgs l
def mEntry (y : Nat) (as : List Value) : List Value := mArgs as ++ List.replicate (mMax y - (mArgs as).length) (.retAddr 0)
def mTake : Nat → List Value → List Value → Option (List Value × List Value)
  | 0, acc, st => some (acc, st)
  | n + 1, acc, v :: st => mTake n (v :: acc) st
  | _ + 1, _, [] => none
def mCat (st : List Value) : Nat := (st.map fun v => v.category).sum
abbrev mO : Type := (Nat × List Value × List Value × mM) ⊕ (Nat × List Value × List Value) ⊕ (Option Value) ⊕ Nat
def mGo (pc : Nat) (ls st : List Value) (M : mM) : Option mO := some (.inl (pc, ls, st, M))
def mTest (c : ClassFile.Cond) (x y : Int32) : Bool := match c with
  | .eq => decide (x = y)
  | .ne => decide (x ≠ y)
  | .lt => decide (x < y)
  | .ge => decide (y ≤ x)
  | .gt => decide (y < x)
  | .le => decide (x ≤ y)
def mPick (offs : List Int) (n : Nat) (d : Int) : Int := offs.getD n d
def mGetf (ci sl ty : Nat) (M : mM) (a : Nat) : Option Value :=
  if (mKd M a).1 = ci then (match ty with
    | 0 => some (.int (mi M a sl))
    | 1 => some (.long (ml M a sl))
    | _ => some (mRv (mr M a sl))) else none
def mPutf (ci sl ty : Nat) (M : mM) (a : Nat) (v : Value) : Option mM :=
  if (mKd M a).1 = ci then (match ty, v with
    | 0, .int x => some (wI M a (va_up (mi M a) sl x))
    | 1, .long x => some (wL M a (va_up (ml M a) sl x))
    | 2, .ref b => some (wR M a (va_up (mr M a) sl (some b)))
    | _, _ => none) else none
def mInv (mode y : Nat) (st : List Value) (M : mM) : Option mO := match mTake (mPar y) [] st with
  | none => none
  | some (as, st1) => if mode = 2 then (if mCat st1 ≤ 8 ∧ (mArgs as).length ≤ mMax y then some (.inr (.inl (y, as, st1))) else none) else (match st1 with
    | .ref b :: rest => if (mKd M b).1 = mOwn y ∧ mCat rest ≤ 8 ∧ (mArgs as).length + 1 ≤ mMax y then some (.inr (.inl (y, .ref b :: as, rest))) else none
    | _ => none)
def mStep (d mt : Nat) (r : Instr × Nat × Nat × Nat × Int) (pc : Nat) (ls st : List Value) (M : mM) : Option mO := match r.1 with
  | .iconst _ => mGo (pc + 1) ls (.int (iI r.2.2.2.2) :: st) M
  | .bipush _ => mGo (pc + 2) ls (.int (iI r.2.2.2.2) :: st) M
  | .sipush _ => mGo (pc + 3) ls (.int (iI r.2.2.2.2) :: st) M
  | .lconst _ => mGo (pc + 1) ls (.long (lI r.2.2.2.2) :: st) M
  | .ldc _ => if r.2.2.1 = 1 then mGo (pc + 2) ls (.int (iI r.2.2.2.2) :: st) M else none
  | .ldc_w _ => if r.2.2.1 = 1 then mGo (pc + 3) ls (.int (iI r.2.2.2.2) :: st) M else none
  | .ldc2_w _ => if r.2.2.1 = 1 then mGo (pc + 3) ls (.long (lI r.2.2.2.2) :: st) M else none
  | .iload_n k => (match mNth ls k with | .int x => mGo (pc + 1) ls (.int x :: st) M | _ => none)
  | .iload k => (match mNth ls k with | .int x => mGo (pc + 2) ls (.int x :: st) M | _ => none)
  | .lload_n k => (match mNth ls k with | .long x => mGo (pc + 1) ls (.long x :: st) M | _ => none)
  | .lload k => (match mNth ls k with | .long x => mGo (pc + 2) ls (.long x :: st) M | _ => none)
  | .aload_n k => (match mNth ls k with | .ref x => mGo (pc + 1) ls (.ref x :: st) M | _ => none)
  | .aload k => (match mNth ls k with | .ref x => mGo (pc + 2) ls (.ref x :: st) M | _ => none)
  | .istore_n k => (match st with | .int x :: st => mGo (pc + 1) (mSto ls k (.int x)) st M | _ => none)
  | .istore k => (match st with | .int x :: st => mGo (pc + 2) (mSto ls k (.int x)) st M | _ => none)
  | .astore_n k => (match st with | .ref x :: st => mGo (pc + 1) (mSto ls k (.ref x)) st M | _ => none)
  | .astore k => (match st with | .ref x :: st => mGo (pc + 2) (mSto ls k (.ref x)) st M | _ => none)
  | .lstore_n k => (match st with | .long x :: st => mGo (pc + 1) (mUns (mSto ls k (.long x)) (k + 1)) st M | _ => none)
  | .lstore k => (match st with | .long x :: st => mGo (pc + 2) (mUns (mSto ls k (.long x)) (k + 1)) st M | _ => none)
  | .iinc k n => (match mNth ls k with | .int x => mGo (pc + 3) (mSto ls k (.int (x + iI n))) st M | _ => none)
  | .dup => (match st with | .ref x :: st => mGo (pc + 1) ls (.ref x :: .ref x :: st) M | .int x :: st => mGo (pc + 1) ls (.int x :: .int x :: st) M | _ => none)
  | .dup2 => (match st with | .int x :: .ref y :: st => mGo (pc + 1) ls (.int x :: .ref y :: .int x :: .ref y :: st) M | _ => none)
  | .iadd => (match st with | .int y :: .int x :: st => mGo (pc + 1) ls (.int (x + y) :: st) M | _ => none)
  | .isub => (match st with | .int y :: .int x :: st => mGo (pc + 1) ls (.int (x - y) :: st) M | _ => none)
  | .imul => (match st with | .int y :: .int x :: st => mGo (pc + 1) ls (.int (x * y) :: st) M | _ => none)
  | .idiv => (match st with | .int y :: .int x :: st => if y = 0 then none else mGo (pc + 1) ls (.int (x / y) :: st) M | _ => none)
  | .irem => (match st with | .int y :: .int x :: st => if y = 0 then none else mGo (pc + 1) ls (.int (x - x / y * y) :: st) M | _ => none)
  | .ineg => (match st with | .int x :: st => mGo (pc + 1) ls (.int (-x) :: st) M | _ => none)
  | .ishl => (match st with | .int y :: .int x :: st => mGo (pc + 1) ls (.int (x <<< (y &&& 31)) :: st) M | _ => none)
  | .ishr => (match st with | .int y :: .int x :: st => mGo (pc + 1) ls (.int (x >>> (y &&& 31)) :: st) M | _ => none)
  | .iushr => (match st with | .int y :: .int x :: st => mGo (pc + 1) ls (.int ((x.toUInt32 >>> (y.toUInt32 &&& Int32.toUInt32 31)).toInt32) :: st) M | _ => none)
  | .iand => (match st with | .int y :: .int x :: st => mGo (pc + 1) ls (.int (x &&& y) :: st) M | _ => none)
  | .ior => (match st with | .int y :: .int x :: st => mGo (pc + 1) ls (.int (x ||| y) :: st) M | _ => none)
  | .ixor => (match st with | .int y :: .int x :: st => mGo (pc + 1) ls (.int (x ^^^ y) :: st) M | _ => none)
  | .ladd => (match st with | .long y :: .long x :: st => mGo (pc + 1) ls (.long (x + y) :: st) M | _ => none)
  | .lsub => (match st with | .long y :: .long x :: st => mGo (pc + 1) ls (.long (x - y) :: st) M | _ => none)
  | .lmul => (match st with | .long y :: .long x :: st => mGo (pc + 1) ls (.long (x * y) :: st) M | _ => none)
  | .ldiv => (match st with | .long y :: .long x :: st => if y = 0 then none else mGo (pc + 1) ls (.long (x / y) :: st) M | _ => none)
  | .lrem => (match st with | .long y :: .long x :: st => if y = 0 then none else mGo (pc + 1) ls (.long (x - x / y * y) :: st) M | _ => none)
  | .lshl => (match st with | .int y :: .long x :: st => mGo (pc + 1) ls (.long (x <<< (y.toInt64 &&& 63)) :: st) M | _ => none)
  | .lshr => (match st with | .int y :: .long x :: st => mGo (pc + 1) ls (.long (x >>> (y.toInt64 &&& 63)) :: st) M | _ => none)
  | .land => (match st with | .long y :: .long x :: st => mGo (pc + 1) ls (.long (x &&& y) :: st) M | _ => none)
  | .lor => (match st with | .long y :: .long x :: st => mGo (pc + 1) ls (.long (x ||| y) :: st) M | _ => none)
  | .i2l => (match st with | .int x :: st => mGo (pc + 1) ls (.long x.toInt64 :: st) M | _ => none)
  | .l2i => (match st with | .long x :: st => mGo (pc + 1) ls (.int x.toInt32 :: st) M | _ => none)
  | .lcmp => (match st with | .long y :: .long x :: st => mGo (pc + 1) ls (.int (lg_cmp x y) :: st) M | _ => none)
  | .goto _ => mGo r.2.2.1 ls st M
  | .ifCond c _ => (match st with | .int x :: st => if mTest c x 0 = true then mGo r.2.2.1 ls st M else mGo (pc + 3) ls st M | _ => none)
  | .if_icmp c _ => (match st with | .int y :: .int x :: st => if mTest c x y = true then mGo r.2.2.1 ls st M else mGo (pc + 3) ls st M | _ => none)
  | .tableswitch df lo hi offs => (match st with | .int x :: st => if x.toInt < lo ∨ hi < x.toInt then mGo (Int.toNat (pc + df)) ls st M else mGo (Int.toNat (pc + mPick offs.toList (x.toInt - lo).toNat 0)) ls st M | _ => none)
  | .getfield _ => (match st with | .ref a :: st => (match mGetf r.2.2.1 r.2.2.2.1 r.2.2.2.2.toNat M a with | some v => mGo (pc + 3) ls (v :: st) M | none => none) | _ => none)
  | .putfield _ => (match st with | v :: .ref a :: st => (match mPutf r.2.2.1 r.2.2.2.1 r.2.2.2.2.toNat M a v with | some M' => mGo (pc + 3) ls st M' | none => none) | _ => none)
  | .iaload => (match st with | .int i :: .ref a :: st => if ((mKd M a).1 = 10 ∨ (mKd M a).1 = 13) ∧ ¬ (i < 0 ∨ (mKd M a).2 ≤ i.toNatClampNeg) then mGo (pc + 1) ls (.int (mi M a i.toNatClampNeg) :: st) M else none | _ => none)
  | .laload => (match st with | .int i :: .ref a :: st => if (mKd M a).1 = 11 ∧ ¬ (i < 0 ∨ (mKd M a).2 ≤ i.toNatClampNeg) then mGo (pc + 1) ls (.long (ml M a i.toNatClampNeg) :: st) M else none | _ => none)
  | .baload => (match st with | .int i :: .ref a :: st => if (mKd M a).1 = 12 ∧ ¬ (i < 0 ∨ (mKd M a).2 ≤ i.toNatClampNeg) then mGo (pc + 1) ls (.int (mi M a i.toNatClampNeg) :: st) M else none | _ => none)
  | .iastore => (match st with | .int x :: .int i :: .ref a :: st => if (mKd M a).1 = 10 ∧ ¬ (i < 0 ∨ (mKd M a).2 ≤ i.toNatClampNeg) then mGo (pc + 1) ls st (wI M a (va_up (mi M a) i.toNatClampNeg x)) else none | _ => none)
  | .lastore => (match st with | .long x :: .int i :: .ref a :: st => if (mKd M a).1 = 11 ∧ ¬ (i < 0 ∨ (mKd M a).2 ≤ i.toNatClampNeg) then mGo (pc + 1) ls st (wL M a (va_up (ml M a) i.toNatClampNeg x)) else none | _ => none)
  | .bastore => (match st with | .int x :: .int i :: .ref a :: st => if (mKd M a).1 = 12 ∧ ¬ (i < 0 ∨ (mKd M a).2 ≤ i.toNatClampNeg) ∧ (x = 0 ∨ x = 1) then mGo (pc + 1) ls st (wI M a (va_up (mi M a) i.toNatClampNeg x)) else none | _ => none)
  | .arraylength => (match st with | .ref a :: st => if (mKd M a).1 = 10 ∨ (mKd M a).1 = 13 then mGo (pc + 1) ls (.int (nI (mKd M a).2) :: st) M else none | _ => none)
  | .newarray _ => (match st with | .int n :: st => if ¬ n < 0 ∧ n.toNatClampNeg ≤ 65536 then mGo (pc + 2) ls (.ref (mLn M) :: st) (mNew M r.2.2.1 n.toNatClampNeg) else none | _ => none)
  | .new _ => if r.2.2.1 < 7 then mGo (pc + 3) ls (.ref (mLn M) :: st) (mNew M r.2.2.1 r.2.2.2.1) else (match st with | [] => some (.inr (.inr (.inr r.2.2.1))) | _ => none)
  | .invokevirtual _ => if r.2.2.1 = 0 then mInv 0 r.2.2.2.1 st M else none
  | .invokestatic _ => if r.2.2.1 = 2 then mInv 2 r.2.2.2.1 st M else none
  | .invokespecial _ => if r.2.2.1 = 5 then (match st with | .ref _ :: st => if 1 ≤ d ∧ mCat st ≤ 8 then mGo (pc + 3) ls st M else none | _ => none) else if r.2.2.1 = 3 ∨ r.2.2.1 = 4 then mInv r.2.2.1 r.2.2.2.1 st M else none
  | .ireturn => (match st with | [.int v] => if mRet mt = some .int ∨ (mRet mt = some .boolean ∧ (v = 0 ∨ v = 1)) then some (.inr (.inr (.inl (some (.int v))))) else none | _ => none)
  | .lreturn => (match st with | [.long v] => if mRet mt = some .long then some (.inr (.inr (.inl (some (.long v))))) else none | _ => none)
  | .return_ => (match st with | [] => if mRet mt = none then some (.inr (.inr (.inl none))) else none | _ => none)
  | _ => none
def mHan (k : Nat) : List (Nat × Nat × Nat × Nat) := if k = mLaw_table then [(0, 10, 13, 13), (0, 10, 17, 15)] else if k = mLaw_pair then [(0, 8, 11, 15), (0, 8, 14, 21)] else if k = mLaw_book then [(0, 7, 10, 13)] else if k = mLaw_tree then [(0, 9, 12, 13)] else []
def mExK (idx : Nat) : Nat := if idx = 13 then 7 else if idx = 15 then 8 else if idx = 21 then 9 else 0
def mCatch (k pc ex : Nat) : Option Nat := ((mHan k).find? (fun h => decide (h.1 ≤ pc) && decide (pc < h.2.1) && decide (mExK h.2.2.2 = ex))).map (fun h => h.2.2.1)
def mBody (f : Nat → Nat → Nat → List Value → List Value → mM → Option ((Option Value ⊕ Nat) × mM)) (d mt pc : Nat) (ls st : List Value) (M : mM) : Option ((Option Value ⊕ Nat) × mM) := match mIns mt pc with
    | none => none
    | some r => match mStep d mt r pc ls st M with
      | none => none
      | some (.inl (pc', ls', st', M')) => f d mt pc' ls' st' M'
      | some (.inr (.inl (y, as, rest))) => match d with
        | 0 => none
        | d' + 1 => match f d' y 0 (mEntry y as) [] M with
          | none => none
          | some (.inl v, M') => f (d' + 1) mt (pc + 3) ls (v.toList ++ rest) M'
          | some (.inr ex, M') => match mCatch mt pc ex with
            | none => none
            | some h => f (d' + 1) mt h ls [.ref (mLn M' - 1)] M'
      | some (.inr (.inr (.inl v))) => some (.inl v, M)
      | some (.inr (.inr (.inr ex))) => if 6 ≤ d then some (.inr ex, mNew M ex 6) else none
def mRun : Nat → Nat → Nat → Nat → List Value → List Value → mM → Option ((Option Value ⊕ Nat) × mM)
  | 0, _, _, _, _, _, _ => none
  | n + 1, d, mt, pc, ls, st, M => mBody (mRun n) d mt pc ls st M
theorem mBody_mono {f g : Nat → Nat → Nat → List Value → List Value → mM → Option ((Option Value ⊕ Nat) × mM)} (hf : ∀ d mt pc ls st M x, f d mt pc ls st M = some x → g d mt pc ls st M = some x)
    {d mt pc : Nat} {ls st : List Value} {M : mM} {x : (Option Value ⊕ Nat) × mM} (h : mBody f d mt pc ls st M = some x) : mBody g d mt pc ls st M = some x := by
  unfold mBody at h ⊢
  cases hr : mIns mt pc with
  | none => simp only [hr] at h; cases h
  | some r =>
    simp only [hr] at h ⊢
    cases hs : mStep d mt r pc ls st M with
    | none => simp only [hs] at h; cases h
    | some o =>
      simp only [hs] at h ⊢
      match o, h with
      | .inl (pc', ls', st', M'), h => exact hf _ _ _ _ _ _ _ h
      | .inr (.inl (y, as, rest)), h =>
        match d, h with
        | 0, h => cases h
        | d' + 1, h =>
          simp only at h ⊢
          cases hc : f d' y 0 (mEntry y as) [] M with
          | none => simp only [hc] at h; cases h
          | some q =>
            simp only [hc] at h
            simp only [hf _ _ _ _ _ _ _ hc]
            match q, h with
            | (.inl v, M'), h => exact hf _ _ _ _ _ _ _ h
            | (.inr ex, M'), h =>
              simp only at h ⊢
              cases hm : mCatch mt pc ex with
              | none => simp only [hm] at h; cases h
              | some hh =>
                simp only [hm] at h ⊢
                exact hf _ _ _ _ _ _ _ h
      | .inr (.inr (.inl v)), h => exact h
      | .inr (.inr (.inr ex)), h => exact h
/-- more fuel changes nothing -/
theorem mRun_mono : ∀ n d mt pc ls st M x, mRun n d mt pc ls st M = some x → mRun (n + 1) d mt pc ls st M = some x := by
  intro n
  induction n with
  | zero => intro d mt pc ls st M x h; cases h
  | succ n ih =>
    intro d mt pc ls st M x h
    exact mBody_mono ih h
theorem mRun_le {n k d mt pc : Nat} {ls st : List Value} {M : mM} {x : (Option Value ⊕ Nat) × mM} (hk : n ≤ k) (h : mRun n d mt pc ls st M = some x) : mRun k d mt pc ls st M = some x := by
  induction hk with
  | refl => exact h
  | step _ ih => exact mRun_mono _ _ _ _ _ _ _ _ ih
def mP (d mt pc : Nat) (ls st : List Value) (M : mM) (Q : (Option Value ⊕ Nat) → mM → Prop) : Prop := ∃ n x, mRun n d mt pc ls st M = some x ∧ Q x.1 x.2
theorem mP_go {d mt pc : Nat} {ls st : List Value} {M : mM} {Q : (Option Value ⊕ Nat) → mM → Prop} {r : Instr × Nat × Nat × Nat × Int} {pc' : Nat} {ls' st' : List Value} {M' : mM} (hr : mIns mt pc = some r)
    (hs : mStep d mt r pc ls st M = some (.inl (pc', ls', st', M'))) (k : mP d mt pc' ls' st' M' Q) : mP d mt pc ls st M Q := by
  obtain ⟨n, x, h1, h2⟩ := k
  exact ⟨n + 1, x, by show mBody _ _ _ _ _ _ _ = _; unfold mBody; simp only [hr, hs]; exact h1, h2⟩
theorem mP_ret {d mt pc : Nat} {ls st : List Value} {M : mM} {Q : (Option Value ⊕ Nat) → mM → Prop} {r : Instr × Nat × Nat × Nat × Int} {v : Option Value} (hr : mIns mt pc = some r)
    (hs : mStep d mt r pc ls st M = some (.inr (.inr (.inl v)))) (k : Q (.inl v) M) : mP d mt pc ls st M Q :=
  ⟨1, (.inl v, M), by show mBody _ _ _ _ _ _ _ = _; unfold mBody; simp only [hr, hs], k⟩
theorem mP_thr {d mt pc : Nat} {ls st : List Value} {M : mM} {Q : (Option Value ⊕ Nat) → mM → Prop} {r : Instr × Nat × Nat × Nat × Int} {ex : Nat} (hr : mIns mt pc = some r)
    (hs : mStep d mt r pc ls st M = some (.inr (.inr (.inr ex)))) (hd : 6 ≤ d) (k : Q (.inr ex) (mNew M ex 6)) : mP d mt pc ls st M Q :=
  ⟨1, (.inr ex, mNew M ex 6), by show mBody _ _ _ _ _ _ _ = _; unfold mBody; simp only [hr, hs, if_pos hd], k⟩
theorem mP_call {d mt pc : Nat} {ls st : List Value} {M : mM} {Q : (Option Value ⊕ Nat) → mM → Prop} {r : Instr × Nat × Nat × Nat × Int} {y : Nat} {as rest : List Value} (hr : mIns mt pc = some r)
    (hs : mStep (d + 1) mt r pc ls st M = some (.inr (.inl (y, as, rest))))
    (k : mP d y 0 (mEntry y as) [] M (fun o M' => match o with
      | .inl v => mP (d + 1) mt (pc + 3) ls (v.toList ++ rest) M' Q
      | .inr ex => ∃ h, mCatch mt pc ex = some h ∧ mP (d + 1) mt h ls [.ref (mLn M' - 1)] M' Q)) : mP (d + 1) mt pc ls st M Q := by
  obtain ⟨n, ⟨o, M'⟩, h1, h2⟩ := k
  cases o with
  | inl v =>
    obtain ⟨n2, x, h3, h4⟩ := h2
    refine ⟨max n n2 + 1, x, ?_, h4⟩
    show mBody _ _ _ _ _ _ _ = _
    unfold mBody
    simp only [hr, hs, mRun_le (Nat.le_max_left n n2) h1, mRun_le (Nat.le_max_right n n2) h3]
  | inr ex =>
    obtain ⟨h, hm, n2, x, h3, h4⟩ := h2
    refine ⟨max n n2 + 1, x, ?_, h4⟩
    show mBody _ _ _ _ _ _ _ = _
    unfold mBody
    simp only [hr, hs, mRun_le (Nat.le_max_left n n2) h1, hm, mRun_le (Nat.le_max_right n n2) h3]
theorem mP_mono {d mt pc : Nat} {ls st : List Value} {M : mM} {Q Q' : (Option Value ⊕ Nat) → mM → Prop} (h : mP d mt pc ls st M Q) (k : ∀ o M', Q o M' → Q' o M') : mP d mt pc ls st M Q' := by
  obtain ⟨n, x, h1, h2⟩ := h
  exact ⟨n, x, h1, k _ _ h2⟩
