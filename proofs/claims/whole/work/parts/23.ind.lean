/-! SOUNDNESS: by induction on the fuel -/
def mRetAt (mt pc : Nat) (v : Option Value) : Prop := (v = none ∧ decode (mCode mt) pc = .ok (.return_, 1) ∧ mRet mt = none) ∨ (∃ x : Int32, v = some (.int x) ∧ decode (mCode mt) pc = .ok (.ireturn, 1) ∧ (mRet mt = some .int ∨ (mRet mt = some .boolean ∧ (x = 0 ∨ x = 1)))) ∨ (∃ x : Int64, v = some (.long x) ∧ decode (mCode mt) pc = .ok (.lreturn, 1) ∧ mRet mt = some .long)
theorem mRet_of {d mt pc : Nat} {r : Instr × Nat × Nat × Nat × Int} {ls st : List Value} {M : mM} {v : Option Value} (hr : mIns mt pc = some r) (hs : mStep d mt r pc ls st M = some (.inr (.inr (.inl v)))) : st = v.toList ∧ mRetAt mt pc v := by
  obtain ⟨hmt, hok⟩ := mIns_ok hr
  obtain ⟨i, len, a1, a2, a3⟩ := r
  simp only [mOkB, Bool.and_eq_true, decide_eq_true_eq] at hok
  obtain ⟨hd, hok⟩ := hok
  cases i with
  | ireturn =>
    simp only [decide_eq_true_eq] at hok
    subst hok
    simp only [mStep] at hs
    split at hs
    · split at hs
      · rename_i hc
        cases hs
        exact ⟨rfl, Or.inr (Or.inl ⟨_, rfl, hd, hc⟩)⟩
      · cases hs
    · cases hs
  | lreturn =>
    simp only [decide_eq_true_eq] at hok
    subst hok
    simp only [mStep] at hs
    split at hs
    · split at hs
      · rename_i hc
        cases hs
        exact ⟨rfl, Or.inr (Or.inr ⟨_, rfl, hd, hc⟩)⟩
      · cases hs
    · cases hs
  | return_ =>
    simp only [decide_eq_true_eq] at hok
    subst hok
    simp only [mStep] at hs
    split at hs
    · split at hs
      · rename_i hc
        cases hs
        exact ⟨rfl, Or.inl ⟨rfl, hd, hc⟩⟩
      · cases hs
    · cases hs
  | invokevirtual ix =>
    exfalso
    simp only [mStep, mInv] at hs
    repeat' (split at hs)
    all_goals cases hs
  | invokestatic ix =>
    exfalso
    simp only [mStep, mInv] at hs
    repeat' (split at hs)
    all_goals cases hs
  | invokespecial ix =>
    exfalso
    simp only [mStep, mInv, mGo] at hs
    repeat' (split at hs)
    all_goals cases hs
  | _ =>
    exfalso
    simp only [mStep, mGo] at hs
    repeat' (split at hs)
    all_goals first | (cases hs; done) | (simp at hs; done)
def mSnd (n : Nat) : Prop := ∀ (d mt pc : Nat) (ls st : List Value) (M M' : mM) (o : Option Value ⊕ Nat), mRun n d mt pc ls st M = some (o, M') →
  ∀ (p : Program) (l : Launch) (e : Env) (R : Room) (s : State) (m : MethodId) (args : Array Value) (below : List Frame) (meth : Method) (c : Code) (Q : State → Prop) (D : va_G) (AC EC : Nat → ClassId) (b z0 : Nat) (H0 : Heap) (vm0 : Vm) (m0 s0 : Nat) (Ms : mM),
    mFr p s m args meth c mt → mKnow D AC EC s → mExc EC vm0 s → mBase vm0 z0 H0 → (∀ e : Env, l.admits e → e.platform.stackTraces = false) → l.admits e → mRel D AC EC b z0 H0 s Ms s.heap → m0 ≤ mLn M → s0 ≤ mSl M → mLn M' - m0 ≤ R.cells → mSl M' - s0 ≤ R.slots → d ≤ R.frames → d * 60 ≤ R.locals →
    (∀ v, o = .inl v → ∀ (pcR : Nat) (lsR : List Value), mRetAt mt pcR v → mNx p l e R s m args below meth c Q D AC EC b z0 H0 mt m0 s0 pcR lsR v.toList M') →
    (∀ ex, o = .inr ex → 7 ≤ ex ∧ ex < 10 → 2 ≤ mLn M' → (mK M' (mLn M' - 1)).1 = ex → ∀ (t : State) (locs' : List Loc), t.status = .running → Ended t below (.threw (mAd b z0 (mLn M' - 1))) → s.WarmedH t.vm → s.sameButNew ({ t with vm := s.vm } : State) locs' (mLn M' - m0) (mSl M' - s0) → (∀ q ∈ locs', z0 ≤ q.base) → mRel D AC EC b z0 H0 s M' t.heap → Q t) →
    mNx p l e R s m args below meth c Q D AC EC b z0 H0 mt m0 s0 pc ls st M
theorem mEnt_mem {b z0 : Nat} : ∀ (as : List Value) (i k : Nat), ∀ q ∈ mLv b z0 i (mArgs as ++ List.replicate k (.retAddr 0)), q ∈ lv_args i (as.map (mUp b z0)) := by
  intro as
  induction as with
  | nil =>
    intro i k q hq
    exfalso
    have : ∀ (k i : Nat), mLv b z0 i (List.replicate k (.retAddr 0)) = [] := by
      intro k
      induction k with
      | zero => intro i; rfl
      | succ k ih =>
        intro i
        rw [List.replicate_succ]
        unfold mLv
        rw [if_pos (show mIsR (.retAddr 0) = true from rfl)]
        exact ih (i + 1)
    have h2 : mLv b z0 i (mArgs [] ++ List.replicate k (.retAddr 0)) = [] := this k i
    rw [h2] at hq
    cases hq
  | cons v as ih =>
    intro i k q hq
    have hstep1 : ∀ (w : Value) (l : List Value) (i : Nat) (q : Nat × Value), q ∈ mLv b z0 i (w :: l) → q = (i, mUp b z0 w) ∨ q ∈ mLv b z0 (i + 1) l := by
      intro w l i q h
      unfold mLv at h
      split at h
      · exact Or.inr h
      · exact List.mem_cons.mp h
    show q ∈ (i, mUp b z0 v) :: lv_args (if (mUp b z0 v).category = 2 then i + 2 else i + 1) (as.map (mUp b z0))
    rw [mUp_cat]
    have h1 : ∀ (c2 : v.category = 1) (ha : mArg1 v = [v]), q ∈ (i, mUp b z0 v) :: lv_args (if v.category = 2 then i + 2 else i + 1) (as.map (mUp b z0)) := by
      intro c2 ha
      have hq2 : q ∈ mLv b z0 i (mArg1 v ++ mArgs as ++ List.replicate k (.retAddr 0)) := hq
      rw [ha] at hq2
      rcases hstep1 v _ i q hq2 with h | h
      · rw [h]; exact List.mem_cons_self
      · rw [if_neg (by omega)]
        exact List.mem_cons_of_mem _ (ih (i + 1) k q h)
    have h2 : ∀ (c2 : v.category = 2) (ha : mArg1 v = [v, .retAddr 0]), q ∈ (i, mUp b z0 v) :: lv_args (if v.category = 2 then i + 2 else i + 1) (as.map (mUp b z0)) := by
      intro c2 ha
      have hq2 : q ∈ mLv b z0 i (mArg1 v ++ mArgs as ++ List.replicate k (.retAddr 0)) := hq
      rw [ha] at hq2
      rcases hstep1 v _ i q hq2 with h | h
      · rw [h]; exact List.mem_cons_self
      · have h' : q ∈ mLv b z0 (i + 1) (.retAddr 0 :: (mArgs as ++ List.replicate k (.retAddr 0))) := h
        unfold mLv at h'
        rw [if_pos (show mIsR (.retAddr 0) = true from rfl)] at h'
        rw [if_pos c2]
        exact List.mem_cons_of_mem _ (ih (i + 2) k q h')
    cases v with
    | long x => exact h2 rfl rfl
    | double x => exact h2 rfl rfl
    | int x => exact h1 rfl rfl
    | float x => exact h1 rfl rfl
    | null => exact h1 rfl rfl
    | ref x => exact h1 rfl rfl
    | retAddr x => exact h1 rfl rfl
theorem mArgs_len {b z0 : Nat} : ∀ as : List Value, (lg_sl (as.map (mUp b z0))).length = (mArgs as).length := by
  intro as
  induction as with
  | nil => rfl
  | cons v as ih =>
    have e1 : lg_sl ((v :: as).map (mUp b z0)) = (if (mUp b z0 v).category = 2 then [.val (mUp b z0 v), .second] else [.val (mUp b z0 v)]) ++ lg_sl (as.map (mUp b z0)) := rfl
    have e2 : mArgs (v :: as) = mArg1 v ++ mArgs as := rfl
    rw [e1, e2, List.length_append, List.length_append, ih, mUp_cat]
    cases v <;> rfl
theorem mEnt_LR {b z0 y : Nat} {as : List Value} (h : (mArgs as).length ≤ mMax y) : mLR b z0 (mMax y) (mEntry y as) ((lg_sl (as.map (mUp b z0)) ++ List.replicate (mMax y - (lg_sl (as.map (mUp b z0))).length) Slot.unset).toArray) := by
  have hl := mArgs_len (b := b) (z0 := z0) as
  obtain ⟨h1, h2, h3⟩ := lv_entry (as.map (mUp b z0)) (n := mMax y) (by rw [hl]; exact h)
  refine ⟨?_, h1, h2, fun q hq => h3 q (mEnt_mem as 0 _ q hq)⟩
  unfold mEntry
  rw [List.length_append, List.length_replicate]
  omega
theorem W_mono {p : Program} {l : Launch} {e : Env} {R : Room} {s : State} {m : MethodId} {args : Array Value} {below : List Frame} {meth : Method} {c : Code} {H : Heap} {locs : List Loc} {cells slots : Nat} {Q Q' : State → Prop} {g : JFrame} (h : W p l e R s m args below meth c H locs cells slots Q g) (k : ∀ t, Q t → Q' t) : W p l e R s m args below meth c H locs cells slots Q' g := by
  intro T hT X
  obtain ⟨t, a, b⟩ := h T hT X
  exact ⟨t, a, k t b⟩
theorem m_met {n d' y : Nat} {as : List Value} {M M1 : mM} {o : Option Value ⊕ Nat} {l : Launch} {D : va_G} {AC EC : Nat → ClassId} {b z0 : Nat} {H0 : Heap} {vm0 : Vm} (ih : mSnd n) (hrun : mRun n d' y 0 (mEntry y as) [] M = some (o, M1)) (hy : y < 152) (hargs : (mArgs as).length ≤ mMax y) (hB : mBase vm0 z0 H0) (hfl : ∀ e : Env, l.admits e → e.platform.stackTraces = false) :
    MetFree l (mY y) (headSpec mWs (mRm d' M M1)) (mPc D AC EC b z0 H0 vm0 M as) (fun _ _ _ _ _ => True) (mQf D AC EC b z0 H0 o M M1) := by
  obtain ⟨hpl, -, hyo, -, -⟩ := mY_plain hy
  refine MetFree.of_bodySF (code := mCode y) (maxLocals := mMax y) (ret := mRet y) hpl ?_ ?_
  · intro args s m hpre hn
    obtain ⟨mk, methY, cY, kY, n1, n2, n3, n4, n5, n6, n7, -⟩ := mY_facts (s := s) (args := args) (atoms_spec (ws := mWs) hpre) hy
    cases n1.symm.trans hn
    exact ⟨methY, cY, n2, n3, n4, n5, n6, n7⟩
  · intro p e s m args below meth c s₁ B hml hP _
    obtain ⟨rfl, hR, hK, hE⟩ := hP
    have hts : ∀ w ∈ mWs, w.before (as.map (mUp b z0)).toArray s = true := atoms_spec (ws := mWs) B.pre
    obtain ⟨mk, methY, cY, kY, n1, n2, n3, n4, n5, n6, n7, n8, n9, n10, n11⟩ := mY_facts hts hy
    cases n1.symm.trans B.named
    cases n2.symm.trans B.method
    cases n3.symm.trans (Stand.of_body B).code
    have hown : s.vm.findClass (mOwnN (mOwn y)) = some m.cls := by rw [hyo]; exact findClass_of_methodNamed B.named
    have F : mFr p s m (as.map (mUp b z0)).toArray meth c y := ⟨B.exec, B.bytes, B.returns, hml, hown, hts, B.notSynchronized, (name_of_methodNamed B.named B.method).1, n8⟩
    have hgr := mRun_grow _ _ _ _ _ _ _ _ _ hrun
    have hW := ih d' y 0 (mEntry y as) [] M M1 o hrun p l e (mRm d' M M1) s m (as.map (mUp b z0)).toArray below meth c (fun t => ∃ o', t.status = .running ∧ Ended t below o' ∧ mQf D AC EC b z0 H0 o M M1 (as.map (mUp b z0)).toArray s o' t) D AC EC b z0 H0 vm0 (mLn M) (mSl M) M F hK hE hB hfl B.admits hR (Nat.le_refl _) (Nat.le_refl _) (Nat.le_refl _) (Nat.le_refl _) (Nat.le_refl _) (Nat.le_refl _) ?_ ?_ s.heap [] _ hR (fun q hq => by cases hq) (mEnt_LR hargs)
    · rw [Nat.sub_self, Nat.sub_self] at hW
      have hW2 : W p l e (mRm d' M M1) s m (as.map (mUp b z0)).toArray below meth c s.heap [] 0 0 (fun t => ∃ o', t.status = .running ∧ Ended t below o' ∧ mQf D AC EC b z0 H0 o M M1 (as.map (mUp b z0)).toArray s o' t) (entryFrame m (as.map (mUp b z0)).toArray (mMax y)) := by
        rw [lg_entry_eq]
        exact hW
      have hh0 : s₁.heap = s.heap := by rw [B.state]; rfl
      obtain ⟨t, a1, o', b1, b2, b3⟩ := hW2 s₁ hh0 (Stand.of_body B)
      exact ⟨t, o', a1, b1, b2, b3⟩
    · intro v hv pcR lsR hra H locs lsA hRR hL hl
      subst hv
      have hb := B.bytes
      have hx := B.exec
      have hr := B.returns
      have hlocks := B.notSynchronized
      have key : ∀ t, MQ below (fun _ st o' t => o' = .returned (v.map (mUp b z0)) ∧ mRel D AC EC b z0 H0 st M1 t.heap) (as.map (mUp b z0)).toArray s (mLn M1 - mLn M) (mSl M1 - mSl M) (fun q => z0 ≤ q) t → ∃ o', t.status = .running ∧ Ended t below o' ∧ mQf D AC EC b z0 H0 (.inl v) M M1 (as.map (mUp b z0)).toArray s o' t := by
        rintro t ⟨o', h1, h2, ⟨h3, h4⟩, L, ⟨-, h5, h6⟩, h7⟩
        exact ⟨o', h1, h2, h3, h4, L, h5, h6, h7⟩
      have hrel : ∀ t : State, t.heap = H → s.WarmedH t.vm → mRel D AC EC b z0 H0 s M1 t.heap := fun t ht _ => by rw [ht]; exact hRR
      rcases hra with ⟨rfl, hd, hrt⟩ | ⟨x, rfl, hd, hrt⟩ | ⟨x, rfl, hd, hrt⟩
      · exact W_mono (W.vret hx hb (hr.trans hrt) (fun t ht hW => ⟨rfl, hrel t ht hW⟩) hL hd) key
      · rcases hrt with hrt | ⟨hrt, h01⟩
        · exact W_mono (W.iret hx hb (hr.trans hrt) (fun t ht hW => ⟨rfl, hrel t ht hW⟩) hL hd) key
        · exact W_mono (W.zret hx hb (hr.trans hrt) (nar_z h01) (fun t ht hW => ⟨rfl, hrel t ht hW⟩) hL hd) key
      · exact W_mono (W.lret hx hb (hr.trans hrt) (fun t ht hW => ⟨rfl, hrel t ht hW⟩) hL hd) key
    · intro ex hv hex h2 hk t locs' t1 t2 t3 t4 t5 t6
      subst hv
      exact ⟨_, t1, t2, ⟨rfl, hex.1, hex.2, h2, hk⟩, t6, locs', t3, t4, t5⟩
theorem m_sound : ∀ n, mSnd n := by
  intro n
  induction n with
  | zero => intro d mt pc ls st M M' o h; cases h
  | succ n ih =>
    intro d mt pc ls st M M' o h p l e R s m args below meth c Q D AC EC b z0 H0 vm0 m0 s0 Ms F K hE hB hfl hadm hsR hm0 hs0 hrc hrs hfr hlo kret kthr
    have hgrow := mRun_grow _ _ _ _ _ _ _ _ _ h
    have h : mBody (mRun n) d mt pc ls st M = some (o, M') := h
    unfold mBody at h
    cases hr : mIns mt pc with
    | none => simp only [hr] at h; cases h
    | some r =>
      simp only [hr] at h
      have hmt := (mIns_ok hr).1
      cases hs : mStep d mt r pc ls st M with
      | none => simp only [hs] at h; cases h
      | some q =>
        simp only [hs] at h
        match q, hs, h with
        | .inl (pc', ls', st', M1), hs, h =>
          have h1 := mStep_grow hs
          have h2 := mRun_grow _ _ _ _ _ _ _ _ _ h
          exact m_step F K hr hs hm0 hs0 (by omega) (by omega) hfr hlo (ih d mt pc' ls' st' M1 M' o h p l e R s m args below meth c Q D AC EC b z0 H0 vm0 m0 s0 Ms F K hE hB hfl hadm hsR (by omega) (by omega) hrc hrs hfr hlo kret kthr)
        | .inr (.inl (y, as, rest)), hs, h =>
          match d, hs, h, hfr, hlo with
          | 0, hs, h, _, _ => cases h
          | d' + 1, hs, h, hfr, hlo =>
            simp only at h
            obtain ⟨hy, hcat, hargs, hdec, hlk⟩ := m_link (p := p) (l := l) (e := e) (R := R) (below := below) (b := b) (z0 := z0) (H0 := H0) F K hr hs
            cases hc : mRun n d' y 0 (mEntry y as) [] M with
            | none => simp only [hc] at h; cases h
            | some w =>
              obtain ⟨o1, M1⟩ := w
              have h1 := mRun_grow _ _ _ _ _ _ _ _ _ hc
              have hM := m_met (l := l) (D := D) (AC := AC) (EC := EC) (b := b) (z0 := z0) (H0 := H0) (vm0 := vm0) ih hc hy hargs hB hfl
              simp only [hc] at h
              match o1, hc, hM, h with
              | .inl v, hc, hM, h =>
                have h2 := mRun_grow _ _ _ _ _ _ _ _ _ h
                refine m_call F hmt K hE hy hcat hdec hlk hM h1.1 h1.2 hm0 hs0 (by omega) (by omega) hfr hlo (fun v' hv => ?_) (fun ex hv => by cases hv)
                cases hv
                exact ih (d' + 1) mt (pc + 3) ls (v.toList ++ rest) M1 M' o h p l e R s m args below meth c Q D AC EC b z0 H0 vm0 m0 s0 Ms F K hE hB hfl hadm hsR (by omega) (by omega) hrc hrs hfr hlo kret kthr
              | .inr ex, hc, hM, h =>
                simp only at h
                cases hm : mCatch mt pc ex with
                | none => simp only [hm] at h; cases h
                | some hh =>
                  simp only [hm] at h
                  have h2 := mRun_grow _ _ _ _ _ _ _ _ _ h
                  refine m_call F hmt K hE hy hcat hdec hlk hM h1.1 h1.2 hm0 hs0 (by omega) (by omega) hfr hlo (fun v' hv => by cases hv) (fun ex' hv => ?_)
                  cases hv
                  exact ⟨hh, hm, ih (d' + 1) mt hh ls [.ref (mLn M1 - 1)] M1 M' o h p l e R s m args below meth c Q D AC EC b z0 H0 vm0 m0 s0 Ms F K hE hB hfl hadm hsR (by omega) (by omega) hrc hrs hfr hlo kret kthr⟩
        | .inr (.inr (.inl v)), hs, h =>
          simp only at h
          cases h
          obtain ⟨rfl, hra⟩ := mRet_of hr hs
          exact kret v rfl pc ls hra
        | .inr (.inr (.inr ex)), hs, h =>
          simp only at h
          split at h
          · rename_i h6
            cases h
            refine m_throw F K hE hB (hfl e hadm) hsR hr hs h6 hm0 hs0 hrc hrs hfr hlo (fun hex t locs' t1 t2 t3 t4 t5 t6 => ?_)
            by_cases hln : 1 ≤ mLn M
            · exact kthr ex rfl hex (by show 2 ≤ mLn M + 1; omega) (by
                show (va_up (mK M) (mLn M) (ex, 6) (mLn M + 1 - 1)).1 = ex
                rw [Nat.add_sub_cancel, mU_eq]) t locs' t1 t2 t3 t4 t5 t6
            · exact absurd t6.1 (by
                have : mLn M = 0 := by omega
                intro hx
                have h2 := t6.2.2.1.1
                have h3 : (va_up (mK M) (mLn M) (ex, 6) 0).1 = 13 := h2
                rw [this, mU_eq] at h3
                have : ex = 13 := h3
                omega)
          · cases h
