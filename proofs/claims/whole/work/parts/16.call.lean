/-! CALLS -/
theorem mY_tab : (List.range 152).all (fun y => plainFor (mY y) && decide ((mY y).cls ≠ "java/lang/invoke/MethodHandle") && decide ((mY y).cls ≠ "java/lang/invoke/VarHandle") && decide (mOwnN (mOwn y) = (mY y).cls) && decide ((parseMethodDescriptor (mY y).desc).map (fun q => q.parameters.length) = some (mPar y)) && decide (mMax y ≤ 40)) = true := by decide +kernel
theorem mY_plain {y : Nat} (h : y < 152) : plainFor (mY y) = true ∧ ((mY y).cls ≠ "java/lang/invoke/MethodHandle" ∧ (mY y).cls ≠ "java/lang/invoke/VarHandle") ∧ mOwnN (mOwn y) = (mY y).cls ∧ (∀ sig, parseMethodDescriptor (mY y).desc = some sig → mPar y = sig.parameters.length) ∧ mMax y ≤ 40 := by
  have h1 := List.all_eq_true.mp mY_tab y (List.mem_range.mpr h)
  simp only [Bool.and_eq_true, decide_eq_true_eq] at h1
  obtain ⟨⟨⟨⟨⟨a1, a2⟩, a3⟩, a4⟩, a5⟩, a6⟩ := h1
  refine ⟨a1, ⟨a2, a3⟩, a4, fun sig hs => ?_, a6⟩
  rw [hs] at a5
  exact (Option.some.inj a5).symm
theorem mY_facts {s : State} {args : Array Value} (hts : ∀ w ∈ mWs, w.before args s = true) {y : Nat} (hy : y < 152) : ∃ (mk : MethodId) (methY : Method) (cY : Code) (kY : Class), s.methodNamed? (mY y) = some mk ∧ s.vm.method? mk = some methY ∧ methY.code = some cY ∧ cY.code = mCode y ∧ cY.maxLocals = mMax y ∧ methY.sig.returnType = mRet y ∧ methY.locks = false ∧
    cY.exceptionTable.toList = tableOf (mHan y) ∧ parseMethodDescriptor (mY y).desc = some methY.sig ∧ s.vm.classes[mk.cls]? = some kY ∧ kY.init = .initialized := by
  obtain ⟨hp, hi⟩ := mYT_all hy
  have hini := hts _ (mWs_mem hi rfl)
  rcases hp with hw | ⟨hw, hh⟩
  · obtain ⟨mk, methY, cY, h1, h2, h3, h4, h5, h6, h7, h8, h9⟩ := Cond.codeWith_spec (hts _ (mWs_mem hw rfl))
    obtain ⟨kY, hk, -⟩ := className_of_methodNamed h1
    exact ⟨mk, methY, cY, kY, h1, h2, h3, h4, h5, h7, h8, by rw [← h6, table_eq], h9, hk, Cond.initialized_spec (findClass_of_methodNamed h1) hk hini⟩
  · have hc := hts _ (mWs_mem hw rfl)
    obtain ⟨mk, h1⟩ := Cond.code_named hc
    obtain ⟨methY, cY, h2, h3, h4, h5, h7, h8, h6, h9⟩ := Cond.code_spec h1 hc
    obtain ⟨kY, hk, -⟩ := className_of_methodNamed h1
    refine ⟨mk, methY, cY, kY, h1, h2, h3, h4, h5, h7, h8, ?_, h9, hk, Cond.initialized_spec (findClass_of_methodNamed h1) hk hini⟩
    rw [hh]
    have : cY.exceptionTable = #[] := Array.isEmpty_iff.mp h6
    rw [this]
    rfl
section MCall
variable {p : Program} {l : Launch} {e : Env} {R : Room} {s : State} {m : MethodId} {args : Array Value} {below : List Frame} {meth : Method} {c : Code}
/-- behind the link: the callee runs by its contract; it returns, or it throws -/
theorem m_after {U : State} {Ls : List Loc} {c0 s0 mc ms maxL : Nat} {y : MethodName} {ws : List Cond} {rm : Room} {Pc : Array Value → State → Prop} {Qf : Array Value → State → Outcome → State → Prop} {free : Addr → Prop}
    (X : Stand p l e R s m args below meth c U Ls c0 s0) (hM : MetFree l y (headSpec ws rm) Pc (fun _ _ _ _ _ => True) Qf) {g : JFrame} (hg : g.method = m) (hsize : g.locals.size = c.maxLocals) {ig : Instr} {len : Nat} (hdg : decode c.code g.pc = .ok (ig, len))
    (hW : 2 * g.monitorRoom + (g.stack.map fun v => v.category).sum ≤ 8) {mk : MethodId} (hn : U.methodNamed? y = some mk) {methY : Method} {cY : Code} (hmY : U.vm.method? mk = some methY) (hcY : methY.code = some cY) (hlY : cY.maxLocals = maxL)
    {kY : Class} (hkY : U.vm.classes[mk.cls]? = some kY) (hinitY : kY.init = .initialized) {a : Array Value} (hframes : rm.frames + 1 ≤ R.frames) (hlocals : 8 + (maxL + 11) + rm.locals ≤ R.locals) (hpre : (allAtoms ws).before a U = true) (hc : c0 + rm.cells ≤ R.cells) (hs : s0 + rm.slots ≤ R.slots)
    (hP : Pc a (U.calling g mk a)) (hQ : ∀ st o t, Qf a st o t → ∃ L : List Loc, st.WarmedH t.vm ∧ st.sameButNew ({ t with vm := st.vm } : State) L mc ms ∧ ∀ q ∈ L, free q.base) :
    ∃ (o : Outcome) (t U' : State) (L : List Loc), Qf a (U.calling g mk a) o t ∧ U'.heap = t.heap ∧ U'.vm = t.vm ∧ (∀ q ∈ L, free q.base) ∧ Stand p l e R s m args below meth c U' (Ls ++ L) (c0 + mc) (s0 + ms) ∧
      (match o with
       | .returned v => Steps p.tables e below (doInvoke e (U.setTop g) [] mk a).1 (U'.setTop { g with pc := g.pc + len, stack := v.toList ++ g.stack })
       | .threw x => Steps p.tables e below (doInvoke e (U.setTop g) [] mk a).1 ((U'.setTop g).pushFrame (.throwing x))) := by
  have h : At U g.method c below := by rw [hg]; exact X.here
  have happ : (headSpec ws rm).appliesLoose y e.platform (U.calling g mk a) = true :=
    Spec.appliesLoose_calling (S := headSpec ws rm) (g := g) h hdg hn hkY hinitY (X.room_calling (g := g) (R' := rm) hsize hmY hcY hframes (by rw [hlY]; omega) hc hs) hpre
  obtain ⟨mid, hmid⟩ := h.above
  have hfr : (U.setTop g).frames = (.java g :: mid) ++ below := by rw [State.frames_setTop' g h.top, hmid]; rfl
  obtain ⟨o, s₂, hsteps, -, hend, hq⟩ := Steps.callFree hM p X.admits X.cas X.clock (acts := []) hfr happ hP trivial
  have hq' : Qf a (U.calling g mk a) o s₂ := hq
  rw [State.frames_setTop' g h.top] at hend
  obtain ⟨L, hW₂, ⟨e2, q2, q3, q4, q5, q6⟩, hL⟩ := hQ _ _ _ hq'
  have e3 : s₂ = ({ (U.calling g mk a).setFrames s₂.frames with heap := s₂.heap, slotsUsed := s₂.slotsUsed } : State).setVm s₂.vm := by
    have : s₂ = ({ s₂ with vm := (U.calling g mk a).vm } : State).setVm s₂.vm := rfl
    rw [e2] at this
    exact this
  have hW' : U.WarmedH s₂.vm := hW₂
  obtain ⟨g₀, hg0⟩ := Option.isSome_iff_exists.mp h.top
  obtain ⟨r, hr⟩ := State.topJava?_eq_some.mp hg0
  have hsame : U.sameButNew ({ U with heap := s₂.heap, slotsUsed := s₂.slotsUsed } : State) L mc ms := by
    refine ⟨?_, q2, q3, q4, q5, q6⟩
    obtain ⟨t, ht, -⟩ := State.frames_cons hr
    show ({ U with heap := s₂.heap, slotsUsed := s₂.slotsUsed } : State) = { U.setFrames U.frames with heap := s₂.heap, slotsUsed := s₂.slotsUsed }
    rw [State.setFrames_self ht]
  subst hg
  have hr' : (({ U with heap := s₂.heap, slotsUsed := s₂.slotsUsed } : State).setVm s₂.vm).frames = .java g₀ :: r := hr
  refine ⟨o, s₂, (({ U with heap := s₂.heap, slotsUsed := s₂.slotsUsed } : State).setVm s₂.vm), L, hq', rfl, rfl, hL,
    ⟨X.admits, X.cas, X.clock, X.frames, X.room, X.hears, X.method, X.code, (X.here.setHeapUsed s₂.heap s₂.slotsUsed).setVm hW'.alike, X.tail, State.WarmedH.trans X.warmed hW', X.limits, X.bytes, X.same.trans (hsame.setVm s.vm)⟩, ?_⟩
  cases o with
  | returned v =>
    obtain ⟨c₂, i₂, len₂, hc₂, hd₂, hf₂⟩ := hend
    have hcc : c₂ = c := by
      have h1 : s₂.code? g.method = U.code? g.method := by
        rw [State.code?_eq, State.code?_eq, hW'.alike.method?]
      exact Option.some.inj (hc₂.symm.trans (h1.trans h.code))
    subst hcc
    have hlen : len₂ = len := by rw [hdg] at hd₂; cases hd₂; rfl
    subst hlen
    have hs₂ : s₂ = (({ U with heap := s₂.heap, slotsUsed := s₂.slotsUsed } : State).setVm s₂.vm).setTop { g with pc := g.pc + len₂, stack := v.toList ++ g.stack } := by
      refine e3.trans ?_
      rw [hf₂, State.calling_eq h.top, State.setFrames_setFrames, State.setTop_of_frames _ hr', hr]
      rfl
    show Steps p.tables e below _ ((({ U with heap := s₂.heap, slotsUsed := s₂.slotsUsed } : State).setVm s₂.vm).setTop { g with pc := g.pc + len₂, stack := v.toList ++ g.stack })
    rw [← hs₂]
    exact hsteps
  | threw x =>
    have hf₂ : s₂.frames = .throwing x :: .java g :: U.frames.tail := hend
    have hs₂ : s₂ = ((({ U with heap := s₂.heap, slotsUsed := s₂.slotsUsed } : State).setVm s₂.vm).setTop g).pushFrame (.throwing x) := by
      refine e3.trans ?_
      rw [hf₂, State.calling_eq h.top, State.setFrames_setFrames, State.pushFrame, State.frames_setTop _ hr', State.setTop_of_frames _ hr', State.setFrames_setFrames, hr]
      rfl
    show Steps p.tables e below _ (((({ U with heap := s₂.heap, slotsUsed := s₂.slotsUsed } : State).setVm s₂.vm).setTop g).pushFrame (.throwing x))
    rw [← hs₂]
    exact hsteps
end MCall
