/-! a thrown object is caught in the calling method -/
def mExc (EC : Nat → ClassId) (vm0 : Vm) (s : State) : Prop := vm0.Alike s.vm ∧ ∀ k, 7 ≤ k → k < 10 → s.vm.findClass (mExN k) = some (EC k) ∧ (∃ kC : Class, s.vm.classes[EC k]? = some kC) ∧ ∀ j, 7 ≤ j → j < 10 → s.vm.assignable (EC k) (EC j) = decide (k = j)
theorem mExc.moved {EC : Nat → ClassId} {vm0 : Vm} {u U : State} (hvm : u.vm.Alike U.vm) (h : mExc EC vm0 u) : mExc EC vm0 U := by
  refine ⟨h.1.trans hvm, ?_⟩
  intro k h1 h2
  obtain ⟨a1, ⟨kC, a2⟩, a3⟩ := h.2 k h1 h2
  obtain ⟨k', hk', -⟩ := hvm.2.2 _ _ a2
  exact ⟨by rw [hvm.findClass]; exact a1, ⟨k', hk'⟩, fun j h3 h4 => by rw [hvm.assignable]; exact a3 j h3 h4⟩
/-- one row of a handler table that covers the place: its class is looked up, perhaps for the first time -/
theorem m_row {Qh : Handler → Pre} {E : CtlPost} {e : Env} {d : Bool} {acts : List Action} {S : State} {f : JFrame} {a : Addr} {x : ExceptionTableEntry} {t : List ExceptionTableEntry} {cl : ClassId} {cell : Cell} (hx : covers x f.pc = true) (h0 : x.catchType ≠ 0)
    (hl : S.vm.ClassLinks e.platform f.method.cls x.catchType cl) (hcell : S.heap[a]? = some cell) (hobj : ∀ k, cell.vm ≠ .statics k) (hk : ∃ k, S.vm.classes[cell.cls]? = some k) (hc : ∃ k, S.vm.classes[cl]? = some k) :
    wp (findHandler.go f a (x :: t)) Qh E e d acts S ↔ (if S.vm.assignable cell.cls cl = true then Qh (.found x.handlerPc) d acts (S.setVm (S.vm.noted f.method.cls x.catchType (.cls cl))) else wp (findHandler.go f a t) Qh E e d acts (S.setVm (S.vm.noted f.method.cls x.catchType (.cls cl)))) := by
  have hgv := (resolveClass_links e.toSetting hl).op (op := VmOp.resolveClass f.method.cls x.catchType) rfl
  have hal : S.vm.Alike (S.vm.noted f.method.cls x.catchType (.cls cl)) := (Vm.Alike.refl S.vm).noted _ _ _
  obtain ⟨k1, hk1⟩ := hk
  obtain ⟨k2, hk2⟩ := hc
  obtain ⟨k3, hk3, -⟩ := hal.2.2 _ _ hk1
  obtain ⟨k4, hk4, -⟩ := hal.2.2 _ _ hk2
  have hx2 : (decide (x.startPc ≤ f.pc) && decide (f.pc < x.endPc)) = true := hx
  cases hq : S.vm.assignable cell.cls cl with
  | true =>
    have hq2 : (S.vm.noted f.method.cls x.catchType (.cls cl)).assignable cell.cls cl = true := by rw [hal.assignable]; exact hq
    simp [findHandler.go, hx2, h0, hgv.1, hgv.2, hcell, hobj, hk3, hk4, hq2, VmOp.dirties, VmOp.acts]
  | false =>
    have hq2 : (S.vm.noted f.method.cls x.catchType (.cls cl)).assignable cell.cls cl = false := by rw [hal.assignable]; exact hq
    simp [findHandler.go, hx2, h0, hgv.1, hgv.2, hcell, hobj, hk3, hk4, hq2, VmOp.dirties, VmOp.acts]
theorem m_find {EC : Nat → ClassId} {vm0 : Vm} {e : Env} {s₀ : State} {f : JFrame} {a : Addr} {cell : Cell} {ex : Nat} (hE : mExc EC vm0 s₀) (hex : 7 ≤ ex ∧ ex < 10) (hcv : cell.vm = .none) (hcc : cell.cls = EC ex) :
    ∀ (hs : List (Nat × Nat × Nat × Nat)) (S : State) (h : Nat), (∀ q ∈ hs, q.2.2.2 ≠ 0 ∧ 7 ≤ mExK q.2.2.2 ∧ mExK q.2.2.2 < 10 ∧ s₀.vm.ClassLinks e.platform f.method.cls q.2.2.2 (EC (mExK q.2.2.2))) → s₀.WarmedH S.vm → S.heap[a]? = some cell →
      (hs.find? (fun q => decide (q.1 ≤ f.pc) && decide (f.pc < q.2.1) && decide (mExK q.2.2.2 = ex))).map (fun q => q.2.2.1) = some h →
      ∃ vm' : Vm, s₀.WarmedH vm' ∧ ∀ (Qh : Handler → Pre) (E : CtlPost) (d : Bool) (acts : List Action), wp (findHandler.go f a (tableOf hs)) Qh E e d acts S ↔ Qh (.found h) d acts (S.setVm vm') := by
  intro hs
  induction hs with
  | nil => intro S h _ _ _ hf; simp at hf
  | cons q qs ih =>
    intro S h hall hW hcell hf
    obtain ⟨q0, q1, q2, q3⟩ := hall q List.mem_cons_self
    have hrest := fun z hz => hall z (List.mem_cons_of_mem _ hz)
    have htab : tableOf (q :: qs) = ⟨q.1, q.2.1, q.2.2.1, q.2.2.2⟩ :: tableOf qs := rfl
    rw [htab]
    cases hc : covers ⟨q.1, q.2.1, q.2.2.1, q.2.2.2⟩ f.pc with
    | false =>
      have hc2 : (decide (q.1 ≤ f.pc) && decide (f.pc < q.2.1)) = false := hc
      rw [List.find?_cons, hc2] at hf
      obtain ⟨vm', h1, h2⟩ := ih S h hrest hW hcell hf
      exact ⟨vm', h1, fun Qh E d acts => by rw [Jvm.W.findHandler_go_skip hc]; exact h2 Qh E d acts⟩
    | true =>
      have hc2 : (decide (q.1 ≤ f.pc) && decide (f.pc < q.2.1)) = true := hc
      obtain ⟨-, ⟨kc, hkc⟩, hass⟩ := hE.2 ex hex.1 hex.2
      obtain ⟨-, ⟨kt, hkt⟩, -⟩ := hE.2 (mExK q.2.2.2) q1 q2
      obtain ⟨kc', hkc', -⟩ := hW.alike.2.2 _ _ hkc
      obtain ⟨kt', hkt', -⟩ := hW.alike.2.2 _ _ hkt
      obtain ⟨dk, _, _, _, hdk, _, _, _, _, _, _, hopen⟩ := q3.here
      have hW2 := hW.noted hdk hopen (State.rightAt_cls q3)
      have hrow := fun (Qh : Handler → Pre) (E : CtlPost) (d : Bool) (acts : List Action) => m_row (Qh := Qh) (E := E) (e := e) (d := d) (acts := acts) (S := S) (f := f) (a := a) (x := ⟨q.1, q.2.1, q.2.2.1, q.2.2.2⟩) (t := tableOf qs) (cell := cell) hc q0 (hW.classLinks q3) hcell (fun k hk => by rw [hcv] at hk; cases hk) ⟨kc', by rw [hcc]; exact hkc'⟩ ⟨kt', hkt'⟩
      have hassS : S.vm.assignable cell.cls (EC (mExK q.2.2.2)) = decide (ex = mExK q.2.2.2) := by rw [hW.alike.assignable, hcc]; exact hass _ q1 q2
      by_cases hq : mExK q.2.2.2 = ex
      · rw [List.find?_cons, hc2] at hf
        simp only [hq, decide_true, Bool.and_true, if_true, Option.map_some, Option.some.injEq] at hf
        refine ⟨_, hW2, fun Qh E d acts => ?_⟩
        rw [hrow Qh E d acts, if_pos (by rw [hassS]; simp [hq])]
        rw [hf]
      · rw [List.find?_cons, hc2] at hf
        simp only [hq, decide_false, Bool.and_false] at hf
        obtain ⟨vm', h1, h2⟩ := ih (S.setVm (S.vm.noted f.method.cls q.2.2.2 (.cls (EC (mExK q.2.2.2))))) h hrest hW2 hcell hf
        refine ⟨vm', h1, fun Qh E d acts => ?_⟩
        rw [hrow Qh E d acts, if_neg (by rw [hassS]; simp; exact fun z => hq z.symm)]
        exact h2 Qh E d acts
section MCatch
variable {p : Program} {l : Launch} {e : Env} {R : Room} {s : State} {m : MethodId} {args : Array Value} {below : List Frame} {meth : Method} {c : Code} {EC : Nat → ClassId} {vm0 : Vm} {mt : Nat}
theorem mHan_words : (List.range 152).all (fun y => (mHan y).all (fun q => decide (q.2.2.2 = 13 ∨ q.2.2.2 = 15 ∨ q.2.2.2 = 21) && decide (mOwn y = 8))) = true := by decide +kernel
theorem mLawLinks : Cond.classLink "DrawBureauLaw" 13 (mExN 7) ∈ lw_tbl ∧ Cond.classLink "DrawBureauLaw" 15 (mExN 8) ∈ lw_tbl ∧ Cond.classLink "DrawBureauLaw" 21 (mExN 9) ∈ lw_tbl := by decide +kernel
/-- the search for a handler, as one step of the machine -/
theorem m_caught {T target : State} {g : JFrame} {a : Addr} {h : Nat} {vm' : Vm} (hA : At T g.method c below)
    (hf : ∀ (Qh : Handler → Pre) (E : CtlPost) (d : Bool) (acts : List Action), wp (findHandler g a) Qh E e d acts ((T.setTop g).pushFrame (.throwing a)) ↔ Qh (.found h) d acts (((T.setTop g).pushFrame (.throwing a)).setVm vm'))
    (hrest : Steps p.tables e below ((T.setVm vm').setTop { g with pc := h, stack := [.ref a] }) target) : Steps p.tables e below ((T.setTop g).pushFrame (.throwing a)) target := by
  obtain ⟨hgo, hw⟩ := hA.throwing a
  refine Steps.head hgo hw ?_
  have hstep : (stepThrowing e ((T.setTop g).pushFrame (.throwing a)) a (.java g :: T.frames.tail)).Is ((((T.setTop g).pushFrame (.throwing a)).setVm vm').setFrames (.java { g with pc := h, stack := [.ref a] } :: T.frames.tail)) [] := by
    simp only [stepThrowing, searchFrame, vmDo]
    generalize hr : Sem.go _ e false [] ((T.setTop g).pushFrame (.throwing a)) = res
    obtain ⟨as, rfl, ha⟩ := Sem.eq_ok_of hr (a := Handler.found h) (s' := ((T.setTop g).pushFrame (.throwing a)).setVm vm') (acts' := []) (by simp [hf _ _ _ _])
    exact ⟨rfl, ha⟩
  rw [stepThread_throwing (frames_entered hA.top _), hstep.1]
  obtain ⟨g₀, hg⟩ := Option.isSome_iff_exists.mp hA.top
  obtain ⟨r, hr⟩ := State.topJava?_eq_some.mp hg
  have hr' : (T.setVm vm').frames = .java g₀ :: r := hr
  rw [State.setTop_of_frames _ hr'] at hrest
  have e1 : ((((T.setTop g).pushFrame (.throwing a)).setVm vm').setFrames (.java { g with pc := h, stack := [.ref a] } :: T.frames.tail)) = (T.setVm vm').setFrames (.java { g with pc := h, stack := [.ref a] } :: r) := by
    rw [State.pushFrame, State.setTop_of_frames _ hr, hr, List.tail_cons]
    have e2 : ∀ (u : State) (A B : List Frame), ((u.setFrames A).setVm vm').setFrames B = (u.setVm vm').setFrames B := fun u A B => by
      have : (u.setFrames A).setVm vm' = (u.setVm vm').setFrames A := rfl
      rw [this, State.setFrames_setFrames]
    rw [e2, e2]
  rw [e1]
  exact hrest
theorem m_catch {T : State} {locs : List Loc} {cells slots : Nat} (X : Stand p l e R s m args below meth c T locs cells slots) (F : mFr p s m args meth c mt) (hmt : mt < 152) (hE : mExc EC vm0 s) {g : JFrame} (hg : g.method = m) {a : Addr} {ex h : Nat} {cell : Cell} (hcell : T.heap[a]? = some cell) (hcv : cell.vm = .none) (hcc : cell.cls = EC ex) (hex : 7 ≤ ex ∧ ex < 10) (hm : mCatch mt g.pc ex = some h) :
    ∃ vm' : Vm, Stand p l e R s m args below meth c (T.setVm vm') locs cells slots ∧ ∀ target, Steps p.tables e below ((T.setVm vm').setTop { g with pc := h, stack := [.ref a] }) target → Steps p.tables e below ((T.setTop g).pushFrame (.throwing a)) target := by
  obtain ⟨hx, hb, -, -, hown, hts, -, -, htab⟩ := F
  have hpl : e.platform.magicAccessors = ({} : Platform).magicAccessors := by rw [X.admits.platform]
  subst hg
  have hall : ∀ q ∈ mHan mt, q.2.2.2 ≠ 0 ∧ 7 ≤ mExK q.2.2.2 ∧ mExK q.2.2.2 < 10 ∧ s.vm.ClassLinks e.platform g.method.cls q.2.2.2 (EC (mExK q.2.2.2)) := by
    intro q hq
    have h1 := List.all_eq_true.mp (List.all_eq_true.mp mHan_words mt (List.mem_range.mpr hmt)) q hq
    simp only [Bool.and_eq_true, decide_eq_true_eq] at h1
    obtain ⟨h1, h2⟩ := h1
    rw [h2] at hown
    have hlk : ∀ (ix k : Nat), 7 ≤ k → k < 10 → Cond.classLink "DrawBureauLaw" ix (mExN k) ∈ lw_tbl → s.vm.ClassLinks e.platform g.method.cls ix (EC k) := by
      intro ix k k1 k2 hw
      obtain ⟨c', hc', hcl⟩ := Cond.classLink_spec hown (hts _ (mWs_mem hw rfl)) e.platform hpl
      cases hc'.symm.trans (hE.2 k k1 k2).1
      exact hcl
    rcases h1 with h1 | h1 | h1
    · rw [h1]; exact ⟨by decide, by decide, by decide, hlk 13 7 (by decide) (by decide) mLawLinks.1⟩
    · rw [h1]; exact ⟨by decide, by decide, by decide, hlk 15 8 (by decide) (by decide) mLawLinks.2.1⟩
    · rw [h1]; exact ⟨by decide, by decide, by decide, hlk 21 9 (by decide) (by decide) mLawLinks.2.2⟩
  have hvm : ((T.setTop g).pushFrame (.throwing a)).vm = T.vm := Stand.throwing_vm T g a
  have hheap : ((T.setTop g).pushFrame (.throwing a)).heap = T.heap := Stand.throwing_heap T g a
  obtain ⟨vm', hW', hq⟩ := m_find (e := e) (f := g) (a := a) hE hex hcv hcc (mHan mt) ((T.setTop g).pushFrame (.throwing a)) h hall (by rw [hvm]; exact X.warmed) (by rw [hheap]; exact hcell) hm
  refine ⟨vm', X.noted hW', fun target hrest => m_caught X.here ?_ hrest⟩
  intro Qh E d acts
  rw [Jvm.W.findHandler_eq (meth := meth) (code := c) (by rw [hvm]; exact X.method') X.code, htab]
  exact hq Qh E d acts
end MCatch
