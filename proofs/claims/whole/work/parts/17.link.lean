/-! the links of calls; the call in a walk -/
theorem mTake_spec : ∀ (n : Nat) (acc st as st1 : List Value), mTake n acc st = some (as, st1) → ∃ A : List Value, A.length = n ∧ as = A ++ acc ∧ st = A.reverse ++ st1 := by
  intro n
  induction n with
  | zero =>
    intro acc st as st1 h
    simp only [mTake, Option.some.injEq, Prod.mk.injEq] at h
    exact ⟨[], rfl, by rw [← h.1]; rfl, by rw [h.2]; rfl⟩
  | succ n ih =>
    intro acc st as st1 h
    cases st with
    | nil => simp [mTake] at h
    | cons v st =>
      simp only [mTake] at h
      obtain ⟨A, h1, h2, h3⟩ := ih (v :: acc) st as st1 h
      exact ⟨A ++ [v], by simp [h1], by rw [h2]; simp, by rw [h3]; simp⟩
def mLink (p : Program) (l : Launch) (e : Env) (R : Room) (s : State) (m : MethodId) (args : Array Value) (below : List Frame) (meth : Method) (c : Code) (y : Nat) (g : JFrame) (rest : List Value) (a : Array Value) (H : Heap) : Prop :=
  ∀ (T : State) (locs : List Loc) (cells slots : Nat), T.heap = H → Stand p l e R s m args below meth c T locs cells slots → ∃ (mk : MethodId) (vm₁ : Vm), s.methodNamed? (mY y) = some mk ∧ Stand p l e R s m args below meth c (T.setVm vm₁) locs cells slots ∧
    ∀ target, (∀ acts, Steps p.tables e below (doInvoke e ((T.setVm vm₁).setTop { g with stack := rest }) acts mk a).1 target) → Steps p.tables e below (T.setTop g) target
section MLink
variable {p : Program} {l : Launch} {e : Env} {R : Room} {s : State} {m : MethodId} {args : Array Value} {below : List Frame} {meth : Method} {c : Code} {D : va_G} {AC EC : Nat → ClassId} {b z0 : Nat} {H0 : Heap} {mt : Nat} {M : mM} {H : Heap}
theorem m_linkV {ix y a : Nat} {g : JFrame} {As rest : List Value} (F : mFr p s m args meth c mt) (K : mKnow D AC EC s) (hR : mRel D AC EC b z0 H0 s M H) (hy : y < 152) (ho : mOwn y < 7) (hl : mVP (mOwn mt, ix, y)) (hk : (mKd M a).1 = mOwn y) (hg : g.method = m)
    (hd : decode (mCode mt) g.pc = .ok (.invokevirtual ix, 3)) (hlen : As.length = mPar y) (hst : g.stack = As.reverse ++ .ref (mAd b z0 a) :: rest) : mLink p l e R s m args below meth c y g rest (.ref (mAd b z0 a) :: As).toArray H := by
  intro T locs cells slots hT X
  obtain ⟨hx, hb, -, -, hown, hts, -⟩ := F
  obtain ⟨-, hyn, hyo, hyp, -⟩ := mY_plain hy
  obtain ⟨mk, methM, hnamed, hmethM, hstM, habM⟩ := Cond.instanceMethod_spec (hts _ (mWs_mem hl.2.1 rfl))
  obtain ⟨mk', methY, cY, kY, n1, n2, -, -, -, -, -, -, n9, -, -⟩ := mY_facts hts hy
  cases n1.symm.trans hnamed
  cases n2.symm.trans hmethM
  obtain ⟨c2, r2, m2, q1, q2, q3, q4, kP, hkP, hkPi⟩ := Cond.selects_spec (hts _ (mWs_mem hl.2.2 rfl))
  obtain ⟨-, -, -, cellB, p1, p2, p3, -⟩ := mCell_ob hR hk ho
  have hcls : s.vm.findClass (mY y).cls = some cellB.cls := by
    rw [p2, ← hyo]
    exact (K.1.1 (mOwn y) _ (mCl_at (mOwn y) ho)).2.1
  cases hcls.symm.trans q1
  cases (State.methodFound?_of_named hnamed hyn).symm.trans q2
  cases hnamed.symm.trans q3
  have hselP : selectMethod e.platform s.vm cellB.cls mk = .method mk := by rw [Launch.admits_selectMethod X.admits]; exact q4
  obtain ⟨vm₁, X₁, hstep₁⟩ := X.invokevirtual hx hown (hts _ (mWs_mem hl.1 rfl)) hnamed hmethM hstM hkP hkPi hyn (a := mAd b z0 a) (cell := cellB) (by rw [hT]; exact p1)
    (fun z h => by rw [p3] at h; cases h) hselP hmethM habM hkP hkPi (g := g) hg (argsL := As) (rest := rest) (by rw [hlen]; exact hyp _ n9) hst (by rw [hb]; exact hd)
  exact ⟨mk, vm₁, hnamed, X₁, hstep₁⟩
theorem m_linkS {ix y : Nat} {g : JFrame} {As rest : List Value} (F : mFr p s m args meth c mt) (hy : y < 152) (hl : mSP (mOwn mt, ix, y)) (hg : g.method = m)
    (hd : decode (mCode mt) g.pc = .ok (.invokestatic ix, 3)) (hlen : As.length = mPar y) (hst : g.stack = As.reverse ++ rest) : mLink p l e R s m args below meth c y g rest As.toArray H := by
  intro T locs cells slots hT X
  obtain ⟨hx, hb, -, -, hown, hts, -⟩ := F
  obtain ⟨-, hyn, -, hyp, -⟩ := mY_plain hy
  obtain ⟨mk, methY, cY, kY, n1, n2, -, -, -, -, -, -, n9, n10, n11⟩ := mY_facts hts hy
  have hstatic : methY.isStatic = true := Cond.static_spec n1 n2 (hts _ (mWs_mem hl.2 rfl))
  obtain ⟨vm₁, X₁, hstep₁⟩ := X.invokestatic hx hown (hts _ (mWs_mem hl.1 rfl)) n1 n2 hstatic n10 n11 hyn (g := g) hg (argsL := As) (rest := rest) (by rw [hlen]; exact hyp _ n9) hst (by rw [hb]; exact hd)
  exact ⟨mk, vm₁, n1, X₁, hstep₁⟩
theorem mY_code {y : Nat} (hy : y < 152) (hn : (mY y).name = "<init>") (hr : mRet y = none) {s : State} {args : Array Value} (hts : ∀ w ∈ mWs, w.before args s = true) : (Cond.code (mY y) (mCode y) (mMax y) none).before args s = true := by
  rcases (mYT_all hy).1 with h | ⟨h, -⟩
  · have hh : mHan y = [] := by
      have : (List.range 152).all (fun y => decide ((mY y).name ≠ "<init>") || decide (mHan y = [])) = true := by decide +kernel
      have := List.all_eq_true.mp this y (List.mem_range.mpr hy)
      simp only [Bool.or_eq_true, decide_eq_true_eq] at this
      exact this.resolve_left (fun q => q hn)
    have h2 := hts _ (mWs_mem h rfl)
    rw [hh, hr] at h2
    simp only [Cond.before, Cond.holds, Cond.code_iff_codeWith_nil] at h2 ⊢
    exact h2
  · rw [← hr]
    exact hts _ (mWs_mem h rfl)
theorem m_linkI {ix y a : Nat} {g : JFrame} {As rest : List Value} (F : mFr p s m args meth c mt) (hy : y < 152) (hl : mNP (mOwn mt, ix, y)) (hn : (mY y).name = "<init>") (hr : mRet y = none) (hg : g.method = m)
    (hd : decode (mCode mt) g.pc = .ok (.invokespecial ix, 3)) (hlen : As.length = mPar y) (hst : g.stack = As.reverse ++ .ref a :: rest) : mLink p l e R s m args below meth c y g rest (.ref a :: As).toArray H := by
  intro T locs cells slots hT X
  obtain ⟨hx, hb, -, -, hown, hts, -⟩ := F
  obtain ⟨-, hyn, -, hyp, -⟩ := mY_plain hy
  subst hg
  have hpl : e.platform.magicAccessors = ({} : Platform).magicAccessors := by rw [X.admits.platform]
  obtain ⟨mk, methM, cM, kP, vm₁, hnamed, -, -, -, -, -, -, -, hW₁, hstep₁⟩ := Steps.initColdArgs (e := e) X.here hx X.warmed hpl hown hn hyn (hts _ (mWs_mem hl.1 rfl)) (hts _ (mWs_mem hl.2 rfl)) (mY_code hy hn hr hts) (f := g) rfl (fun sig h => by rw [hlen]; exact hyp _ h) hst (by rw [hb]; exact hd)
  exact ⟨mk, vm₁, hnamed, X.noted hW₁, hstep₁⟩
theorem m_linkN {ix y a : Nat} {g : JFrame} {As rest : List Value} (F : mFr p s m args meth c mt) (hy : y < 152) (hl : mHP (mOwn mt, ix, y)) (hn : (mY y).name = "<init>") (hr : mRet y = none) (hg : g.method = m)
    (hd : decode (mCode mt) g.pc = .ok (.invokespecial ix, 3)) (hlen : As.length = mPar y) (hst : g.stack = As.reverse ++ .ref a :: rest) : mLink p l e R s m args below meth c y g rest (.ref a :: As).toArray H := by
  intro T locs cells slots hT X
  obtain ⟨hx, hb, -, -, hown, hts, -⟩ := F
  obtain ⟨-, hyn, -, hyp, -⟩ := mY_plain hy
  subst hg
  have hpl : e.platform.magicAccessors = ({} : Platform).magicAccessors := by rw [X.admits.platform]
  obtain ⟨mk, methM, cM, kP, vm₁, hnamed, -, -, -, -, -, -, -, hW₁, hstep₁⟩ := Steps.initColdArgsNest (e := e) X.here hx X.warmed hpl hown hn hyn (hts _ (mWs_mem hl.1 rfl)) (hts _ (mWs_mem hl.2 rfl)) (mY_code hy hn hr hts) (f := g) rfl (fun sig h => by rw [hlen]; exact hyp _ h) hst (by rw [hb]; exact hd)
  exact ⟨mk, vm₁, hnamed, X.noted hW₁, hstep₁⟩
/-- what a call's row gives -/
theorem m_link {d pc : Nat} {r : Instr × Nat × Nat × Nat × Int} {ls st as rest : List Value} {y : Nat} (F : mFr p s m args meth c mt) (K : mKnow D AC EC s) (hr : mIns mt pc = some r) (hs : mStep d mt r pc ls st M = some (.inr (.inl (y, as, rest)))) :
    y < 152 ∧ mCat rest ≤ 8 ∧ (mArgs as).length ≤ mMax y ∧ (∃ ig, decode (mCode mt) pc = .ok (ig, 3)) ∧ ∀ (H : Heap) (lsA : Array Slot), mRel D AC EC b z0 H0 s M H → mLink p l e R s m args below meth c y (F0 m pc lsA (st.map (mUp b z0))) (rest.map (mUp b z0)) (as.map (mUp b z0)).toArray H := by
  obtain ⟨hmt, hok⟩ := mIns_ok hr
  obtain ⟨i, len, a1, a2, a3⟩ := r
  simp only [mOkB, Bool.and_eq_true, decide_eq_true_eq] at hok
  obtain ⟨hd, hok⟩ := hok
  have hinv : ∀ (mode y2 : Nat), mInv mode y2 st M = some (.inr (.inl (y, as, rest))) → y2 = y ∧ mCat rest ≤ 8 ∧ (mArgs as).length ≤ mMax y ∧ ((mode = 2 ∧ as.length = mPar y ∧ st = as.reverse ++ rest) ∨ (mode ≠ 2 ∧ ∃ (a : Nat) (A : List Value), as = .ref a :: A ∧ A.length = mPar y ∧ st = A.reverse ++ .ref a :: rest ∧ (mKd M a).1 = mOwn y)) := by
    intro mode y2 h
    unfold mInv at h
    split at h
    · cases h
    · rename_i as1 st1 ht
      obtain ⟨A, t1, t2, t3⟩ := mTake_spec _ _ _ _ _ ht
      rw [List.append_nil] at t2
      subst t2
      split at h
      · rename_i hm
        split at h
        · rename_i hc
          cases h
          exact ⟨rfl, hc.1, hc.2, Or.inl ⟨hm, t1, t3⟩⟩
        · cases h
      · rename_i hm
        split at h
        · rename_i a2 rest2
          split at h
          · rename_i hc
            cases h
            refine ⟨rfl, hc.2.1, ?_, Or.inr ⟨hm, a2, as1, rfl, t1, t3, hc.1⟩⟩
            show (mArg1 (.ref a2) ++ mArgs as1).length ≤ _
            rw [List.length_append]
            show 1 + (mArgs as1).length ≤ _
            omega
          · cases h
        · cases h
  have hrev : ∀ A : List Value, (A.reverse).map (mUp b z0) = (A.map (mUp b z0)).reverse := fun A => List.map_reverse
  cases i with
  | invokevirtual ix =>
    simp only [Bool.and_eq_true, Bool.or_eq_true, decide_eq_true_eq] at hok
    simp only [mStep] at hs
    split at hs
    · rename_i h0
      obtain ⟨rfl, h1, h2, h3⟩ := hinv _ _ hs
      obtain ⟨rfl, hok⟩ := hok
      obtain ⟨⟨hm, hy⟩, ho⟩ := hok.resolve_left (fun q => q h0)
      rcases h3 with ⟨h3, -⟩ | ⟨-, a, A, rfl, t1, rfl, t3⟩
      · cases h3
      · refine ⟨hy, h1, h2, ⟨_, hd⟩, fun H lsA hR => ?_⟩
        rw [List.map_append, hrev]
        exact m_linkV F K hR hy ho (mVT_ok _ hm) t3 rfl hd (by rw [List.length_map]; exact t1) rfl
    · cases hs
  | invokestatic ix =>
    simp only [Bool.and_eq_true, Bool.or_eq_true, decide_eq_true_eq] at hok
    simp only [mStep] at hs
    split at hs
    · rename_i h0
      obtain ⟨rfl, h1, h2, h3⟩ := hinv _ _ hs
      obtain ⟨rfl, hok⟩ := hok
      obtain ⟨hm, hy⟩ := hok.resolve_left (fun q => q h0)
      rcases h3 with ⟨-, t1, rfl⟩ | ⟨h3, -⟩
      · refine ⟨hy, h1, h2, ⟨_, hd⟩, fun H lsA hR => ?_⟩
        rw [List.map_append, hrev]
        exact m_linkS F hy (mST_ok _ hm) rfl hd (by rw [List.length_map]; exact t1) rfl
      · exact absurd rfl h3
    · cases hs
  | invokespecial ix =>
    simp only [Bool.and_eq_true, Bool.or_eq_true, decide_eq_true_eq] at hok
    simp only [mStep] at hs
    split at hs
    · split at hs
      · split at hs
        · cases hs
        · cases hs
      · cases hs
    · rename_i h5
      split at hs
      · rename_i h34
        obtain ⟨rfl, h1, h2, h3⟩ := hinv _ _ hs
        rw [if_neg h5] at hok
        obtain ⟨rfl, hok⟩ := hok
        rcases h3 with ⟨h3, -⟩ | ⟨-, a, A, rfl, t1, rfl, t3⟩
        · omega
        · by_cases h6 : a1 = 3
          · rw [if_pos h6] at hok
            simp only [Bool.and_eq_true, decide_eq_true_eq] at hok
            obtain ⟨⟨⟨⟨hm, hy⟩, hn⟩, hrt⟩, ho⟩ := hok
            refine ⟨hy, h1, h2, ⟨_, hd⟩, fun H lsA hR => ?_⟩
            rw [List.map_append, hrev]
            exact m_linkI F hy (mNT_ok _ hm) hn hrt rfl hd (by rw [List.length_map]; exact t1) rfl
          · have h7 : a1 = 4 := by omega
            rw [if_neg h6, if_pos h7] at hok
            simp only [Bool.and_eq_true, decide_eq_true_eq] at hok
            obtain ⟨⟨⟨⟨hm, hy⟩, hn⟩, hrt⟩, ho⟩ := hok
            refine ⟨hy, h1, h2, ⟨_, hd⟩, fun H lsA hR => ?_⟩
            rw [List.map_append, hrev]
            exact m_linkN F hy (mHT_ok _ hm) hn hrt rfl hd (by rw [List.length_map]; exact t1) rfl
      · cases hs
  | _ =>
    exfalso
    simp only [mStep, mGo] at hs
    repeat' (split at hs)
    all_goals first | cases hs | (simp at hs; done)
end MLink
