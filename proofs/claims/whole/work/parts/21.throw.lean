/-! the throwing itself -/
section MThrow
variable {p : Program} {l : Launch} {e : Env} {R : Room} {s : State} {m : MethodId} {args : Array Value} {below : List Frame} {meth : Method} {c : Code} {Q : State → Prop} {D : va_G} {AC EC : Nat → ClassId} {b z0 : Nat} {H0 : Heap} {vm0 : Vm} {mt m0 s0 : Nat}
/-- a cell of statics is one that was there at the law's start -/
theorem mRel.nostat {M : mM} {H : Heap} {q : Nat} {cell : Cell} (h : mRel D AC EC b z0 H0 s M H) (hc : H[q]? = some cell) (hv : cell.vm.isStatics = true) : q < z0 := by
  rcases Nat.lt_or_ge q z0 with hq | hq
  · exact hq
  · exfalso
    have hlt : q < H.size := (Array.getElem?_eq_some_iff.mp hc).1
    have h1 := h.2.1
    have hk : q = mAd b z0 (q - z0 + 1) := by rw [mAd_pos (by omega)]; omega
    have hcl := h.2.2.2.2.1 (q - z0 + 1) (by omega) (by have := h.1; omega)
    rw [← hk] at hcl
    have hnone : cell.vm = .none := by
      unfold mCell at hcl
      split at hcl
      · rw [hc] at hcl; cases hcl; rfl
      · split at hcl
        · rw [hc] at hcl; cases hcl; rfl
        · split at hcl
          · rw [hc] at hcl; cases hcl; rfl
          · split at hcl
            · obtain ⟨cell', q1, -, q3, -⟩ := hcl
              rw [hc] at q1
              cases q1
              exact q3
            · split at hcl
              · exact hcl.elim
              · obtain ⟨cell', q1, q2, -⟩ := hcl
                rw [hc] at q1
                cases q1
                exact q2
    rw [hnone] at hv
    cases hv
/-- from the constructor's call on: the object is filled, and thrown out of the method -/
theorem m_ctor {W : State} {locs : List Loc} {cells slots : Nat} (X : Stand p l e R s m args below meth c W locs cells slots) (hexec : p.tables.exec = Jvm.exec) (htr : e.platform.stackTraces = false) (hlocks : meth.locks = false) {own : String} {ex ic : Nat} (hex : 7 ≤ ex ∧ ex < 10)
    (hown : s.vm.findClass own = some m.cls) (hat : ∀ w ∈ mXat ex, w.before args s = true) (hS : mStc args s) (hml : (Cond.methodLink own ic (Bundle.initS (mExN ex))).before args s = true) {Ms : mM} (hsR : mRel D AC EC b z0 H0 s Ms s.heap) (hold : ∀ q, q < z0 → W.heap[q]? = s.heap[q]?)
    {a : Addr} (hza : z0 ≤ a) {cX : ClassId} {kX : Class} (hfoundX : s.vm.findClass (mExN ex) = some cX) (hkX : s.vm.classes[cX]? = some kX) (hcell : W.heap[a]? = some (freshCell cX kX)) {msg : Value} (hmsg : msg.isRef = true)
    {g : JFrame} (hg : g.method = m) (hsize : g.locals.size = c.maxLocals) (hlocked : g.locked = none) (hentered : g.entered = []) (hstack : g.stack = [msg, .ref a, .ref a]) (hmr : g.monitorRoom = 0)
    (hd6 : decode c.code g.pc = .ok (.invokespecial ic, 3)) (hd9 : decode c.code (g.pc + 3) = .ok (.athrow, 1)) (hout : ∀ x ∈ c.exceptionTable.toList, covers x (g.pc + 3) = false) (hRf : 6 ≤ R.frames) (hRl : 360 ≤ R.locals) :
    ∃ (U : State) (ce : Cell) (L : List Loc), Steps p.tables e below (W.setTop g) U ∧ U.status = .running ∧ Ended U below (.threw a) ∧ s.WarmedH U.vm ∧ s.sameButNew ({ U with vm := s.vm } : State) (locs ++ L) cells slots ∧ (∀ q ∈ L, q.base = a) ∧ ce.vm = .none ∧ ce.cls = cX ∧ U.heap = W.heap.setIfInBounds a ce := by
  have howns : e.platform.frameOwnsMonitors = true := by rw [X.admits.platform]
  have hfin : e.platform.finalization = false := by rw [X.admits.platform]
  have hpl : e.platform.magicAccessors = ({} : Platform).magicAccessors := by rw [X.admits.platform]
  obtain ⟨t1, t2, t3, t4, t5, t6⟩ := mX_tab ex hex.1 hex.2
  have hh : ∀ x, x ∈ mXat ex → x.holds args s none s [] = true := fun x hx => hat x hx
  obtain ⟨T, Z0, L, -, Y⟩ := ThrowableC.of_atoms (args := args) howns hfin hpl (fun x hx => hat x (by simp [mXat, hx]))
  obtain ⟨Z, Mg, LZ, LM, hnZ⟩ := Init0T.ofS_atoms (args := args) hpl L Y (fun x hx => hat x (by simp [mXat, hx]))
  obtain ⟨P1, L1, hP1m, hP1s⟩ := PassC.ofS_atoms (args := args) (X := mExN ex) (Y := "java/lang/RuntimeException") (index := mXi ex) (bytes := mXb ex) hpl t1 ⟨by decide, by decide⟩ t3 t4 t5 t6 (fun x hx => hat x (by simp [mXat, hx]))
  obtain ⟨P2, Ps, hlen, L2, hL, hP2m, hlink2, hlink⟩ := Bundle.chainS (args := args) hpl hnZ ["java/lang/Exception"] "java/lang/RuntimeException" (by decide +kernel) (fun n hn => by rw [List.mem_singleton] at hn; subst hn; decide +kernel) (fun x hx => hat x (by simp [mXat, hx]))
  have hsup : P1.sup = P2.m := Option.some.inj (hP1s.symm.trans hP2m)
  have hfound : s.vm.findClass (mExN ex) = some P1.m.cls := findClass_of_methodNamed hP1m
  cases Option.some.inj (hfoundX.symm.trans hfound)
  obtain ⟨c1, kX', hc1, hk, hord, -, -, hn6⟩ := Cond.instantiable_spec (hh (.instantiable (mExN ex) 6) (by simp [mXat]))
  cases Option.some.inj (hc1.symm.trans hfound)
  cases Option.some.inj (hkX.symm.trans hk)
  have hsel0 : selectMethod e.platform s.vm P1.m.cls T.fill0 = .method T.fill0 := by
    obtain ⟨c2, r2, m2, q1, q2, q3, q4, -⟩ := Cond.selects_spec (hh (.selects (mExN ex) Bundle.tFill0 Bundle.tFill0) (by simp [mXat]))
    cases Option.some.inj (q1.symm.trans hfound)
    cases Option.some.inj (q2.symm.trans (State.methodFound?_of_named Y.fill0 (by decide)))
    cases Option.some.inj (q3.symm.trans Y.fill0)
    rw [Launch.admits_selectMethod X.admits]; exact q4
  have hselF : selectMethod e.platform s.vm P1.m.cls T.fill = .method T.fill := by
    obtain ⟨c2, r2, m2, q1, q2, q3, q4, -⟩ := Cond.selects_spec (hh (.selects (mExN ex) Bundle.tFill Bundle.tFill) (by simp [mXat]))
    cases Option.some.inj (q1.symm.trans hfound)
    cases Option.some.inj (q2.symm.trans (State.methodFound?_of_named Y.fill (by decide)))
    cases Option.some.inj (q3.symm.trans Y.fill)
    rw [Launch.admits_selectMethod X.admits]; exact q4
  obtain ⟨cellS, hcS0, hiss⟩ := Y.statics
  have haS : T.aS < z0 := hsR.nostat hcS0 hiss
  obtain ⟨u0, hu0⟩ := Cond.staticRefV Y.unassigned L.unassignedStatic L.statics hcS0 hiss (args := args) (first := s) (o := none) (idx := []) hS.2.2.1
  obtain ⟨sen, hsen⟩ := Cond.staticRefV Y.sentinel L.sentinelStatic L.statics hcS0 hiss (args := args) (first := s) (o := none) (idx := []) hS.2.2.2
  obtain ⟨ci198, i198, fB, hk198, hg198, ha198, hsB, -, hnB, htB, hffB⟩ := Cond.ownField (t := .object "java/lang/Object") Y.found L.cls (by decide +kernel) (hh (.fieldLink Bundle.tN 198 Bundle.tN "backtrace" "Ljava/lang/Object;") (by simp [mXat])) (hh (.lays Bundle.tN Bundle.tN "backtrace" "Ljava/lang/Object;") (by simp [mXat])) e.platform hpl
  have hcellS : W.heap[T.aS]? = some cellS := by rw [hold _ haS]; exact hcS0
  have hknownS : cellS.vm ≠ .unknown := by
    intro hu
    rw [hu] at hiss
    cases hiss
  have hneS : T.aS ≠ a := Nat.ne_of_lt (Nat.lt_of_lt_of_le haS hza)
  obtain ⟨iM, hffM⟩ := Y.msg
  obtain ⟨tyC, dC, hdC, hdnC⟩ := Cond.laysAt hfound hk Y.cause (hh (.lays (mExN ex) Bundle.tN "cause" "Ljava/lang/Throwable;") (by simp [mXat]))
  obtain ⟨tyS, dS, hdS, hdnS⟩ := Cond.laysAt hfound hk Y.stack (hh (.lays (mExN ex) Bundle.tN "stackTrace" Bundle.steD) (by simp [mXat]))
  obtain ⟨tyP, dP, hdP, hdnP⟩ := Cond.laysAt hfound hk Y.supp (hh (.lays (mExN ex) Bundle.tN "suppressedExceptions" Bundle.listD) (by simp [mXat]))
  obtain ⟨tyM, dM, hdM, hdnM⟩ := Cond.laysAt hfound hk hffM (hh (.lays (mExN ex) Bundle.tN "detailMessage" "Ljava/lang/String;") (by simp [mXat]))
  obtain ⟨tyB, dB, hdB, hdnB⟩ := Cond.laysAt hfound hk hffB (hh (.lays (mExN ex) Bundle.tN "backtrace" "Ljava/lang/Object;") (by simp [mXat]))
  have bC := Cond.laysApart hdB hdC hdnB hdnC (by rw [hnB, Y.causeName]; decide)
  have bS := Cond.laysApart hdB hdS hdnB hdnS (by rw [hnB, Y.stackName]; decide)
  have bP := Cond.laysApart hdB hdP hdnB hdnP (by rw [hnB, Y.suppName]; decide)
  have hskip : SkipFacts T e.platform s (fun u => u) u0 ((preparedCellV T.toThrowableT (freshCell P1.m.cls kX) a u0 sen).withEntry W.cur) :=
    ⟨{ ci198 := ci198, i198 := i198, fBack := fB }, ⟨hk198, hg198, ha198, hsB⟩, by
      have := fresh_default (c := P1.m.cls) tyB
      rw [htB] at this
      simpa [preparedCellV, Cell.setSlot, Cell.withEntry, Array.getElem?_setIfInBounds, bC, bS, bP, bC.symm, bS.symm, bP.symm, defaultValue] using this, fun _ _ => rfl⟩
  obtain ⟨tm, methC, cdC, kC, vm₁, hnC, -, -, -, -, -, -, -, hW₁, st1⟩ := Steps.initColdS (tb := p.tables) (e := e) (below := below) (s := s) (U := W) X.here hexec X.warmed hpl hown (t := Bundle.initS (mExN ex)) rfl rfl (Bundle.fit_spec t2).2
    hml (hat (.instanceMethod (Bundle.initS (mExN ex))) (by simp [mXat, Bundle.passSAtoms])) (bytes := mXb ex) (maxL := 2) (hat (.code (Bundle.initS (mExN ex)) (mXb ex) 2 none) (by simp [mXat, Bundle.passSAtoms]))
    (f := g) hg (a := a) (msg := msg) (rest := [.ref a]) hstack hd6
  cases Option.some.inj (hnC.symm.trans hP1m)
  have X₁ := X.noted hW₁
  have hmr2 : ({ g with stack := [Value.ref a] } : JFrame).monitorRoom = 0 := hmr
  obtain ⟨vm₂, X₂, st2⟩ := X₁.ctorMessageOffV hexec (g := { g with stack := [.ref a] }) hg hsize T L Z LZ Mg LM (P1 :: P2 :: Ps)
    (fun P hP => by
      rcases List.mem_cons.mp hP with rfl | hP
      · exact L1
      · rcases List.mem_cons.mp hP with rfl | hP
        · exact L2
        · exact hL P hP) ⟨hsup, hlink2, hlink⟩ (u0 := u0) (sen := sen) (self := a) hmsg (cell := freshCell P1.m.cls kX) (cellS := cellS)
    hcell (fun _ => by simp) (by simp) rfl rfl hsel0 hselF hcellS hneS hknownS hu0 hsen
    (Takes.of_laid hk hord tyC (by rw [Y.causeType]; rfl)) (Takes.of_laid hk hord tyS (by rw [Y.stackType]; exact fits_refV_array _ u0)) (Takes.of_laid hk hord tyP (by rw [Y.suppType]; exact fits_refV_object _ sen))
    (Takes.of_laid hk hord tyM (by rw [Y.msgType]; exact fits_refV_object _ ⟨msg, hmsg⟩)) Y.objLocals hskip htr [] hd6
    (by simp only [List.length_cons, hlen, List.length_nil]; omega) (by rw [hmr2]; simp only [List.length_cons, hlen, List.length_nil]; show 2 * 0 + 1 + _ ≤ _; omega)
  obtain ⟨hwalk, hrun, hended, hWU, hsame⟩ := X₂.athrowLeaves hexec (g := { g with stack := [.ref a], pc := g.pc + 3 }) hg hlocked hentered hout (a := a) (rest := []) rfl hd9 (hlocks := hlocks)
  refine ⟨_, plainBareV T.toThrowableT (freshCell P1.m.cls kX) a u0 sen msg, [⟨a, T.fCause.slot⟩, ⟨a, T.fStack.slot⟩, ⟨a, T.fSupp.slot⟩, ⟨a, T.fStack.slot⟩, ⟨a, T.fMsg.slot⟩], st1 _ (fun acts => ?_), hrun, hended, hWU, hsame, ?_, rfl, rfl, rfl⟩
  · rw [doInvoke_state]
    exact st2 _ hwalk
  · intro q hq
    simp only [List.mem_cons, List.not_mem_nil, or_false] at hq
    rcases hq with rfl | rfl | rfl | rfl | rfl <;> rfl
end MThrow
