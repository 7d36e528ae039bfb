/-! THE CLAIM OUT OF ONE WALK OF THE LAW'S BODY. Your part is whole_start (and what it stands on); all else here is the same for every law, but numbers. -/
def R_law : String := "DrawBureauLaw"
def lw_P (b : Addr) (xs : List Int32) (args : Array Value) (s : State) : Prop := args = #[.ref b] ∧ s.IntsAt b xs ∧ xs.length ≤ 2048 ∧ (Jvm.Cond.and given_1 narrow_1).before args s = true
def lw_Q (_ : Array Value) (s : State) (o : Outcome) (t : State) : Prop := o = .returned (some (.int 1)) ∧ Framed s o t [] 601024 7293034
def lw_Z (below : List Frame) (a : Array Value) (s : State) : State → Prop := fun t => ∃ o, t.status = .running ∧ Ended t below o ∧ lw_Q a s o t
/-- the law's own end, with 1 on the stack, nothing written that was there before, its room as the claim has it -/
theorem lw_ret {p : Program} {l : Launch} {e : Env} {s : State} {m : MethodId} {below : List Frame} {meth : Method} {c : Code} {b : Nat} (hx : p.tables.exec = Jvm.exec) (hb : c.code = code) (hr : meth.sig.returnType = ret) (hlocks : meth.locks = false) {pc : Nat} {H : Heap} {ls : Array Slot} (hdg : decode code pc = .ok (.ireturn, 1)) : W p l e room_1 s m #[Value.ref b] below meth c H [] 601024 7293034 (lw_Z below #[Value.ref b] s) (F0 m pc ls [.int 1]) := by
  intro T hT X
  obtain ⟨fs, hret, hrun, hended, hW, hframe⟩ := X.leave (v := some (.int 1)) (hlocks := hlocks) (fun h => by rw [hr] at h; cases h)
  have hmeth' : T.vm.method? m = some meth := X.method'
  refine ⟨T.setFrames fs, ?_, .returned (some (.int 1)), hrun, hended, rfl, ⟨_, rfl⟩, hW, hframe⟩
  jvm_step X.here [X.here.top, hx, hb, hdg, hmeth', hr, ret, narrow_b1]
  (try refine ⟨rfl, ?_⟩); (try refine ⟨rfl, ?_⟩)
  first | (intro acts; rw [hret _ acts rfl rfl rfl]) | rw [hret _ _ rfl rfl rfl]
  exact Steps.refl _
/-- what holds at the law's entry: the machine, the code, the tables' words (any of lw_tbl by 'hts w (by decide +kernel)'), the script of L ints xs at the cell b, what the Statement gives of the start (any of its parts by flat_of_before) -/
def lw_At (p : Program) (s : State) (m : MethodId) (meth : Method) (c : Code) (b L : Nat) (xs : Nat → Int32) : Prop :=
  p.tables.exec = Jvm.exec ∧ c.code = code ∧ meth.sig.returnType = ret ∧ c.maxLocals = 7 ∧ s.vm.findClass R_law = some m.cls ∧ (∀ w ∈ lw_tbl, w.before #[Value.ref b] s = true) ∧ va_X b L xs s s.heap ∧ b < s.heap.size ∧ meth.locks = false ∧ (Jvm.Cond.and given_1 narrow_1).before #[Value.ref b] s = true

/-- THE LAW OVER THE MIDDLE MACHINE: what is left to be proved -/
def mLawOK : Prop := ∀ (L : Nat) (xs : Nat → Int32), L ≤ 2048 → mP 100 mLaw_law 0 (mEntry mLaw_law [.ref 0]) [] (mM0 L xs) (fun o M' => o = .inl (some (.int 1)) ∧ mLn M' ≤ 601025 ∧ mSl M' ≤ 7293034)
theorem mStat_words : Cond.laysStatic Bundle.tN "UNASSIGNED_STACK" Bundle.steD ∈ lw_tbl ∧ Cond.laysStatic Bundle.tN "SUPPRESSED_SENTINEL" Bundle.listD ∈ lw_tbl := by decide +kernel
theorem mRef_words : Cond.isRef (.static Bundle.tN "UNASSIGNED_STACK" Bundle.steD) ∈ flatC (Jvm.Cond.and given_1 narrow_1) ∧ Cond.isRef (.static Bundle.tN "SUPPRESSED_SENTINEL" Bundle.listD) ∈ flatC (Jvm.Cond.and given_1 narrow_1) := by decide +kernel
theorem mInst_words : ∀ ci, ci < 7 → Cond.instantiable (mNm ci) (mSz ci) ∈ lw_tbl := by
  intro ci h
  have : (List.range 7).all (fun ci => decide (Cond.instantiable (mNm ci) (mSz ci) ∈ lw_tbl)) = true := by decide +kernel
  exact of_decide_eq_true (List.all_eq_true.mp this ci (List.mem_range.mpr h))
theorem mExi_words : ∀ k, 7 ≤ k → k < 10 → Cond.instantiable (mExN k) 6 ∈ lw_tbl ∧ Cond.castable (mExN k) (mExN k) ∈ lw_tbl := by
  intro k h1 h2
  have : [7, 8, 9].all (fun k => decide (Cond.instantiable (mExN k) 6 ∈ lw_tbl) && decide (Cond.castable (mExN k) (mExN k) ∈ lw_tbl)) = true := by decide +kernel
  have := List.all_eq_true.mp this k (by simp; omega)
  simp only [Bool.and_eq_true, decide_eq_true_eq] at this
  exact this
theorem mNot_words : ∀ k j, 7 ≤ k → k < 10 → 7 ≤ j → j < 10 → k ≠ j → Cond.not (.castable (mExN k) (mExN j)) ∈ flatC (Jvm.Cond.and given_1 narrow_1) := by
  intro k j h1 h2 h3 h4 h5
  have : [7, 8, 9].all (fun k => [7, 8, 9].all (fun j => decide (k = j) || decide (Cond.not (.castable (mExN k) (mExN j)) ∈ flatC (Jvm.Cond.and given_1 narrow_1)))) = true := by decide +kernel
  have := List.all_eq_true.mp (List.all_eq_true.mp this k (by simp; omega)) j (by simp; omega)
  simp only [Bool.or_eq_true, decide_eq_true_eq] at this
  exact this.resolve_left h5
/-- what holds of the statics at the law's start holds wherever the old cells are as they were -/
theorem mBase_of {s : State} {args : Array Value} (h1 : (Cond.laysStatic Bundle.tN "UNASSIGNED_STACK" Bundle.steD).before args s = true) (h2 : (Cond.laysStatic Bundle.tN "SUPPRESSED_SENTINEL" Bundle.listD).before args s = true)
    (h3 : (Cond.isRef (.static Bundle.tN "UNASSIGNED_STACK" Bundle.steD)).before args s = true) (h4 : (Cond.isRef (.static Bundle.tN "SUPPRESSED_SENTINEL" Bundle.listD)).before args s = true) : mBase s.vm s.heap.size s.heap := by
  intro U A hal hold
  have key : ∀ (n d : String), (Cond.laysStatic Bundle.tN n d).before args s = true → (Cond.isRef (.static Bundle.tN n d)).before args s = true → (Cond.laysStatic Bundle.tN n d).before A U = true ∧ (Cond.isRef (.static Bundle.tN n d)).before A U = true := by
    intro n d hl hr
    obtain ⟨c, k, i, f, a, cell, hc, hi, hst, ha, hcell, hs, hcls, hlt, hty⟩ := Cond.laysStatic_spec hl
    have hl2 := Cond.laysStatic_setVm (args := args) hal hl
    obtain ⟨c', k', i', f', a', cell', hc', hi', hst', ha', hcell', hs', hcls', hlt', hty'⟩ := Cond.laysStatic_spec hl2
    have hi2 : U.fieldFound? Bundle.tN n d = some (c', k', i', f') := hi'
    have hcU : U.heap[a']? = some cell' := by
      rw [hold a' (Array.getElem?_eq_some_iff.mp hcell').1]
      exact hcell'
    refine ⟨Cond.laysStatic_of (s := U) hc' hi2 hst' ha' hcU hs' hcls' hlt' hty', ?_⟩
    cases hv0 : (Term.static Bundle.tN n d).eval args s none [] s with
    | none => simp [Cond.before, Cond.holds, Cond.value, hv0] at hr
    | some v =>
      have ev1 := Term.static_setVm (args := args) hal hv0
      have ev2 : (Term.static Bundle.tN n d).eval args (s.setVm U.vm) none [] (s.setVm U.vm) = cell'.slots[f'.slot]? := by
        have hcell2 : s.heap[a']? = some cell' := hcell'
        simp [Term.eval, State.fieldNamed?, hi', hst', ha', hcell2, hs']
      have hu1 : cell'.slots[f'.slot]? = some v := ev2.symm.trans ev1
      have he : (Term.static Bundle.tN n d).eval A U none [] U = some v := by
        simp [Term.eval, State.fieldNamed?, hi2, hst', ha', hcU, hs', hu1]
      simp only [Cond.before, Cond.holds, Cond.value, hv0, he] at hr ⊢
      exact hr
  obtain ⟨a1, a2⟩ := key _ _ h1 h3
  obtain ⟨b1, b2⟩ := key _ _ h2 h4
  exact ⟨a1, b1, a2, b2⟩

set_option maxHeartbeats 4000000 in
/-- THE LAW, from its entry, out of the middle machine's run -/
theorem whole_start {p : Program} {e : Env} {s : State} {m : MethodId} {below : List Frame} {meth : Method} {c : Code} (hOK : mLawOK) (l : Launch) (hflags : l.flags = flags0) (hadm : l.admits e) {b L : Nat} {xs : Nat → Int32} (hL : L ≤ 2048) (C0 : lw_At p s m meth c b L xs) (hname : meth.name = "law") (htab : c.exceptionTable.toList = []) :
    W p l e room_1 s m #[Value.ref b] below meth c s.heap [] 0 0 (lw_Z below #[Value.ref b] s) (entryFrame m ([Value.ref b] : List Value).toArray 7) := by
  obtain ⟨hx, hb, hr, hml, hown, hts, hX, hbl, hlocks, hgv⟩ := id C0
  have hflat := flat_of_before _ hgv
  have hfl : ∀ e : Env, l.admits e → e.platform.stackTraces = false := fun e he => Launch.traces_off hflags he
  have hts2 : ∀ w ∈ mWs, w.before #[Value.ref b] s = true := fun w hw => hts w (List.mem_filter.mp hw).1
  -- the classes
  have hkn : ∀ ci, ∃ (q : ClassId × (Nat → Nat)), ci < 7 → u_Kn s (mNm ci) (mTOf ci) (mSz ci) q.1 q.2 := by
    intro ci
    by_cases h : ci < 7
    · obtain ⟨cC, iS, hk⟩ := u_known (C := mNm ci) (T := mTOf ci) (N := mSz ci) (n := mSz ci) hts (mCl_in ci h) (hts _ (mInst_words ci h))
      exact ⟨(cC, iS), fun _ => hk⟩
    · exact ⟨(0, fun _ => 0), fun q => absurd q h⟩
  have hex : ∀ k, ∃ q : ClassId, 7 ≤ k → k < 10 → s.vm.findClass (mExN k) = some q ∧ ∃ kC : Class, s.vm.classes[q]? = some kC := by
    intro k
    by_cases h : 7 ≤ k ∧ k < 10
    · obtain ⟨cC, kC, h1, h2, -⟩ := Cond.instantiable_spec (hts _ (mExi_words k h.1 h.2).1)
      exact ⟨cC, fun _ _ => ⟨h1, kC, h2⟩⟩
    · exact ⟨0, fun h1 h2 => absurd ⟨h1, h2⟩ h⟩
  have harr : ∀ ty : FieldType, Cond.arrayClass ty ∈ lw_tbl → ∃ cA : ClassId, ArrOfT s cA ty ∧ s.vm.findClass ("[" ++ ty.toString) = some cA := by
    intro ty hw
    obtain ⟨cA, kA, comp, h1, h2, h3⟩ := Cond.arrayClass_spec (hts _ hw)
    exact ⟨cA, fun n z => ⟨fun k h => (by cases h), kA, h2, comp, h3⟩, h1⟩
  obtain ⟨c0, a0, a0'⟩ := harr .int mArr.1
  obtain ⟨c1, a1, a1'⟩ := harr .long mArr.2.1
  obtain ⟨c2, a2, a2'⟩ := harr .boolean mArr.2.2
  obtain ⟨D, hD⟩ : ∃ D : va_G, ∀ ci, ci < 7 → u_Kn s (mNm ci) (mTOf ci) (mSz ci) (D.1 ci) (D.2 ci) := ⟨(fun ci => (Classical.choose (hkn ci)).1, fun ci => (Classical.choose (hkn ci)).2), fun ci h => Classical.choose_spec (hkn ci) h⟩
  obtain ⟨EC, hEC⟩ : ∃ EC : Nat → ClassId, ∀ k, 7 ≤ k → k < 10 → s.vm.findClass (mExN k) = some (EC k) ∧ ∃ kC : Class, s.vm.classes[EC k]? = some kC := ⟨fun k => Classical.choose (hex k), fun k => Classical.choose_spec (hex k)⟩
  obtain ⟨AC, e0, e1, e2⟩ : ∃ AC : Nat → ClassId, AC 0 = c0 ∧ AC 1 = c1 ∧ AC 2 = c2 := ⟨fun k => if k = 0 then c0 else if k = 1 then c1 else c2, rfl, rfl, rfl⟩
  have K : mKnow D AC EC s := by
    refine ⟨⟨?_, ?_⟩, fun k h1 h2 => (hEC k h1 h2).1⟩
    · intro ci q hq
      have hci : ci < 7 := (List.getElem?_eq_some_iff.mp hq).1
      rw [mCl_at ci hci] at hq
      cases hq
      exact hD ci hci
    · intro k q hq
      match k, hq with
      | 0, hq => cases hq; rw [e0]; exact ⟨a0, a0'⟩
      | 1, hq => cases hq; rw [e1]; exact ⟨a1, a1'⟩
      | 2, hq => cases hq; rw [e2]; exact ⟨a2, a2'⟩
      | k + 3, hq => simp at hq
  have hE : mExc EC s.vm s := by
    refine ⟨Vm.Alike.refl _, fun k h1 h2 => ⟨(hEC k h1 h2).1, (hEC k h1 h2).2, fun j h3 h4 => ?_⟩⟩
    by_cases hkj : k = j
    · subst hkj
      obtain ⟨x, y, q1, q2, q3⟩ := Cond.castable_spec (hts _ (mExi_words k h1 h2).2)
      cases q1.symm.trans (hEC k h1 h2).1
      cases q2.symm.trans (hEC k h1 h2).1
      rw [q3]
      simp
    · have hv := Cond.holds_not_iff.mp (hflat _ (mNot_words k j h1 h2 h3 h4 hkj))
      simp only [Cond.value, (hEC k h1 h2).1, (hEC j h3 h4).1] at hv
      rw [Option.some.inj hv]
      simp [hkj]
  have hB : mBase s.vm s.heap.size s.heap := mBase_of (hts _ mStat_words.1) (hts _ mStat_words.2) (hflat _ mRef_words.1) (hflat _ mRef_words.2)
  have hR : mRel D AC EC b s.heap.size s.heap s (mM0 L xs) s.heap := by
    refine ⟨Nat.le_refl 1, rfl, ⟨rfl, ?_, hX⟩, hbl, ?_, fun q _ => rfl⟩
    · show L < 2 ^ 31
      omega
    · intro k h1 h2
      exact absurd h2 (by show ¬ k < 1; omega)
  have F : mFr p s m #[Value.ref b] meth c mLaw_law := ⟨hx, hb, hr, hml, hown, hts2, hlocks, hname, by rw [htab]; rfl⟩
  obtain ⟨n, ⟨o, M'⟩, hrun, ho, hm1, hm2⟩ := hOK L xs hL
  have ho : o = .inl (some (.int 1)) := ho
  subst ho
  have hm1 : mLn M' ≤ 601025 := hm1
  have hm2 : mSl M' ≤ 7293034 := hm2
  have hW := m_sound n 100 mLaw_law 0 (mEntry mLaw_law [.ref 0]) [] (mM0 L xs) M' (.inl (some (.int 1))) hrun p l e room_1 s m #[Value.ref b] below meth c (lw_Z below #[Value.ref b] s) D AC EC b s.heap.size s.heap s.vm 1 0 (mM0 L xs) F K hE hB hfl hadm hR (Nat.le_refl 1) (Nat.zero_le _) (by show mLn M' - 1 ≤ 601024; omega) (by show mSl M' - 0 ≤ 7293034; omega) (by decide) (by decide) ?_ (fun ex hv => by cases hv) s.heap [] _ hR (fun q hq => by cases hq) (mEnt_LR (as := [.ref 0]) (by decide))
  · have hW2 : W p l e room_1 s m #[Value.ref b] below meth c s.heap [] 0 0 (lw_Z below #[Value.ref b] s) (F0 m 0 ((lg_sl ([.ref b] : List Value) ++ List.replicate (7 - (lg_sl ([.ref b] : List Value)).length) Slot.unset).toArray) []) := hW
    rw [lg_entry_eq]
    exact hW2
  · intro v hv pcR lsR hra H locs lsA hRR hLL hl
    cases hv
    rcases hra with ⟨h, -⟩ | ⟨x1, h, hd, -⟩ | ⟨x1, h, -⟩
    · cases h
    · cases h
      refine va_forget (fun q hq => hLL q hq) ?_
      refine W.widen (k := 601024) (n := 7293034) (by omega) (by omega) ?_
      exact lw_ret hx hb hr hlocks hd
    · cases h
set_option maxHeartbeats 4000000 in
theorem lw_walk (hOK : mLawOK) (l : Launch) (hflags : l.flags = flags0) (b : Addr) (xs : List Int32) : MetFree l x (headSpec (Jvm.Cond.code x code maxLocals ret :: tables_1) room_1) (lw_P b xs) (fun _ _ _ _ _ => True) lw_Q := by
  refine MetFree.of_bodyS (code := code) (maxLocals := maxLocals) (ret := ret) (by decide) ?_ ?_
  · intro args s m h hn
    obtain ⟨meth, c, h1, h2, h3, h4, h5, h6, -, -⟩ := Cond.code_spec hn (atoms_spec (ws := Jvm.Cond.code x code maxLocals ret :: tables_1) h _ List.mem_cons_self)
    exact ⟨meth, c, h1, h2, h3, h4, h5, h6⟩
  · intro p e s m args below meth c s₁ B hml0 hP _
    obtain ⟨rfl, hx, hbd, hgv⟩ := hP
    obtain ⟨scr, harrAt, hlist, hof, hsmall⟩ := hx
    obtain ⟨hcb, hkn, -, -⟩ := State.arrayAt?_spec harrAt
    have hown : s.vm.findClass R_law = some m.cls := findClass_of_methodNamed B.named
    have hts0 : ∀ c ∈ (Jvm.Cond.code x code maxLocals ret :: tables_1), c.before #[Value.ref b] s = true := atoms_spec (ws := Jvm.Cond.code x code maxLocals ret :: tables_1) B.pre
    have hts : ∀ w ∈ lw_tbl, w.before #[Value.ref b] s = true := k2_hts_sels lw_privs (fun w hw => hts0 w (List.mem_cons_of_mem _ hw)) lw_privs_ok
    have hml : c.maxLocals = 7 := B.maxLocals_eq (hts0 _ List.mem_cons_self)
    have X₀ : Stand p l e room_1 s m #[Value.ref b] below meth c s₁ [] 0 0 := Stand.of_body B
    have hh0 : s₁.heap = s.heap := by rw [B.state]; rfl
    have hsz : scr.slots.size = xs.length := by rw [← Array.length_toList, hlist, List.length_map]
    have hval : ∀ j : Nat, j < xs.length → scr.slots[j]? = some (.int (xs.getD j 0)) := fun j hj => by
      rw [← Array.getElem?_toList, hlist]
      simp [hj]
    have hbl : b < s.heap.size := (Array.getElem?_eq_some_iff.mp hcb).1
    have hX : va_X b xs.length (fun j => xs.getD j 0) s s.heap := ⟨scr, hcb, hof, hkn, hsz, hval⟩
    have K : W p l e room_1 s m #[Value.ref b] below meth c s₁.heap [] 0 0 (lw_Z below #[Value.ref b] s) (entryFrame m ([Value.ref b] : List Value).toArray 7) := by
      rw [hh0]
      exact whole_start hOK l hflags B.admits hbd ⟨B.exec, B.bytes, B.returns, hml, hown, hts, hX, hbl, B.notSynchronized, hgv⟩ (name_of_methodNamed B.named B.method).1 (by
        obtain ⟨meth', c', q1, q2, -, -, -, -, q7, -⟩ := Cond.code_spec B.named (hts0 _ List.mem_cons_self)
        cases q1.symm.trans B.method
        cases q2.symm.trans X₀.code
        have : c.exceptionTable = #[] := Array.isEmpty_iff.mp q7
        rw [this])
    obtain ⟨t, a1, o, b1, b2, b3⟩ := K s₁ rfl X₀
    exact ⟨t, o, a1, b1, b2, b3⟩
theorem lw_pre_spec {args : Array Value} {s : State} (h : (Jvm.Cond.and given_1 narrow_1).before args s = true) (hr : rest_1_c.before args s = true) : ∃ (b : Addr) (xs : List Int32), lw_P b xs args s := by
  have hs := flat_of_before _ h
  have hq := flat_of_before _ hr
  have hc : (Cond.count 1).before args s = true := hs _ (by decide +kernel)
  have harr : (Cond.arrayOf (.arg 0) .int).before args s = true := hs _ (by decide +kernel)
  have hle : (Cond.le (.length (.arg 0)) (.int 2048)).before args s = true := hs _ (by decide +kernel)
  have hlen : (Cond.isInt (.length (.arg 0))).before args s = true := hq _ (by decide +kernel)
  have hall : (Cond.all (.arg 0) (.isInt (.elem (.arg 0) (.index 0)))).before args s = true := hq _ (by decide +kernel)
  obtain ⟨b, xs, hb, hx⟩ := State.ints_of_pre rfl harr hlen hall
  have hsm : xs.length < 2 ^ 31 := hx.choose_spec.2.2.2
  have hev : (Term.length (.arg 0)).eval args s none [] s = some (.int xs.length.toInt32) := hx.length_eval hb
  have hv := Cond.le_ints hev (show (Term.int 2048).eval args s none [] s = some (.int 2048) from rfl)
  have hd : xs.length.toInt32 ≤ 2048 := by
    simpa [Cond.before, Cond.holds, hv] using hle
  have hN : xs.length ≤ 2048 := (Int32.ofNat_le_ofNat hsm (by decide)).mp (show Int32.ofNat xs.length ≤ Int32.ofNat 2048 from hd)
  exact ⟨b, xs, Cond.one_arg hc (show args[0]? = some (.ref b) from hb), hx, hN, h⟩
theorem lw_comes (hOK : mLawOK) (l : Launch) (hflags : l.flags = flags0) : Comes l x (Jvm.Cond.code x code maxLocals ret :: tables_1) room_1 (fun tb e args s => Calls_1 tb e args s ∧ rest_1 tb e args s ∧ Pre_1 tb e args s)
    (fun _ _ args s o t => lw_Q args s o t) := by
  intro p e ha hc hk s m args below hf hfit hheap happ hpre
  obtain ⟨b, xs, hP⟩ := lw_pre_spec hpre.2.2 hpre.2.1
  obtain ⟨k, o, h1, h2, h3, hQ⟩ := lw_walk hOK l hflags b xs p e ha hc hk s m args below hf ((Spec.applies_iff_loose hf).mp happ).1 hP trivial
  exact ⟨k, o, h1, h2, h3, hQ⟩
theorem lw_frame {s t : State} {o : Outcome} {args : Array Value} (h : Framed s o t [] 601024 7293034) :
    Framed s o t (fieldLocs frame_1_writes args s ++ arrayLocs frame_1_arrays args s ++ staticLocs frame_1_statics s) 601024 7293034 := h
theorem lw_limb (hOK : mLawOK) (L : Cond) (hL : ∀ (args : Array Value) (s t : State), L.after args s (.returned (some (.int 1))) t = true) :
    ArmFor flags0 classFile x code maxLocals ret World_1 tables_1 room_1 Calls_1 rest_1 Pre_1
      (fun tb e a s o t => postC L tb e a s o t ∧ Framed s o t (fieldLocs frame_1_writes a s ++ arrayLocs frame_1_arrays a s ++ staticLocs frame_1_statics s) 601024 7293034) := by
  intro l hflags _ _ p e ha hc hk s m args below hf hfit hheap happ hpre
  obtain ⟨k, o, h1, h2, h3, rfl, hF⟩ := lw_comes hOK l hflags p e ha hc hk s m args below hf hfit hheap happ hpre
  exact ⟨k, _, h1, h2, h3, hL args s _, lw_frame hF⟩
theorem i_vc_open (hOK : mLawOK) : Claimed_1_1 ∧ Claimed_1_2 := ⟨lw_limb hOK limb_1_1 (fun args s t => by simp [limb_1_1, Cond.after, Cond.holds, Cond.value]), lw_limb hOK limb_1_2 (fun args s t => Cond.after_iff.mpr (by
  first | (rw [show limb_1_2 = Cond.eq .result (.int 1) from rfl, Cond.eq_ints (x := 1) (y := 1) rfl rfl]; simp; done) | (simp [limb_1_2, Cond.value, Term.eval]; done)))⟩
