/-! a method throws an exception that it makes -/
def mStc (A : Array Value) (s : State) : Prop := (Cond.laysStatic Bundle.tN "UNASSIGNED_STACK" Bundle.steD).before A s = true ∧ (Cond.laysStatic Bundle.tN "SUPPRESSED_SENTINEL" Bundle.listD).before A s = true ∧ (Cond.isRef (.static Bundle.tN "UNASSIGNED_STACK" Bundle.steD)).before A s = true ∧ (Cond.isRef (.static Bundle.tN "SUPPRESSED_SENTINEL" Bundle.listD)).before A s = true
def mBase (vm0 : Vm) (z0 : Nat) (H0 : Heap) : Prop := ∀ (U : State) (A : Array Value), vm0.Alike U.vm → (∀ q, q < z0 → U.heap[q]? = H0[q]?) → mStc A U
def mXi (ex : Nat) : Nat := if ex = 9 then 13 else 7
def mXb (ex : Nat) : ByteArray := if ex = 9 then prog_18_method_4_code else Bundle.six
def mXat (ex : Nat) : List Cond := Bundle.throwableAtoms ++ Bundle.throwableSAtoms ++ Bundle.passSAtoms (mExN ex) "java/lang/RuntimeException" (mXi ex) (mXb ex) ++ Bundle.chainSAtoms "java/lang/RuntimeException" ["java/lang/Exception"] ++
  [.castable (mExN ex) (mExN ex), .selects (mExN ex) Bundle.tFill0 Bundle.tFill0, .selects (mExN ex) Bundle.tFill Bundle.tFill,
   .lays (mExN ex) Bundle.tN "cause" "Ljava/lang/Throwable;", .lays (mExN ex) Bundle.tN "stackTrace" Bundle.steD, .lays (mExN ex) Bundle.tN "suppressedExceptions" Bundle.listD, .lays (mExN ex) Bundle.tN "detailMessage" "Ljava/lang/String;",
   .fieldLink Bundle.tN 198 Bundle.tN "backtrace" "Ljava/lang/Object;", .lays Bundle.tN Bundle.tN "backtrace" "Ljava/lang/Object;", .lays (mExN ex) Bundle.tN "backtrace" "Ljava/lang/Object;", .instantiable (mExN ex) 6]
def mIsLs : Cond → Bool
  | .laysStatic c n d => decide (c = Bundle.tN) && (decide (n = "UNASSIGNED_STACK") && decide (d = Bundle.steD) || decide (n = "SUPPRESSED_SENTINEL") && decide (d = Bundle.listD))
  | _ => false
set_option maxRecDepth 100000 in
theorem mXat_7 : (mXat 7).all (fun w => (decide (w ∈ lw_tbl) && mGood w) || mIsLs w) = true := by decide +kernel
set_option maxRecDepth 100000 in
theorem mXat_8 : (mXat 8).all (fun w => (decide (w ∈ lw_tbl) && mGood w) || mIsLs w) = true := by decide +kernel
set_option maxRecDepth 100000 in
theorem mXat_9 : (mXat 9).all (fun w => (decide (w ∈ lw_tbl) && mGood w) || mIsLs w) = true := by decide +kernel
theorem mXat_ok {ex : Nat} (hex : 7 ≤ ex ∧ ex < 10) {s : State} {args : Array Value} (hts : ∀ w ∈ mWs, w.before args s = true) (hS : mStc args s) : ∀ w ∈ mXat ex, w.before args s = true := by
  have hall : (mXat ex).all (fun w => (decide (w ∈ lw_tbl) && mGood w) || mIsLs w) = true := by
    obtain ⟨h1, h2⟩ := hex
    match ex, h1, h2 with
    | 7, _, _ => exact mXat_7
    | 8, _, _ => exact mXat_8
    | 9, _, _ => exact mXat_9
  intro w hw
  have h := List.all_eq_true.mp hall w hw
  simp only [Bool.or_eq_true, Bool.and_eq_true, decide_eq_true_eq] at h
  rcases h with h | h
  · exact hts w (mWs_mem h.1 h.2)
  · cases w with
    | laysStatic c n d =>
      simp only [mIsLs, Bool.and_eq_true, Bool.or_eq_true, decide_eq_true_eq] at h
      obtain ⟨rfl, ⟨rfl, rfl⟩ | ⟨rfl, rfl⟩⟩ := h
      · exact hS.1
      · exact hS.2.1
    | _ => cases h
theorem mX_tab : ∀ ex, 7 ≤ ex → ex < 10 → plainName (mExN ex) = true ∧ Bundle.fit (mExN ex) = true ∧ decode (mXb ex) 0 = .ok (.aload_n 0, 1) ∧ decode (mXb ex) 1 = .ok (.aload_n 1, 1) ∧ decode (mXb ex) 2 = .ok (.invokespecial (mXi ex), 3) ∧ decode (mXb ex) 5 = .ok (.return_, 1) := by
  intro ex h1 h2
  match ex, h1, h2 with
  | 7, _, _ => decide +kernel
  | 8, _, _ => decide +kernel
  | 9, _, _ => decide +kernel
