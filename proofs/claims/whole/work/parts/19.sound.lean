/-! what a run makes is only more; contracts; the call -/
theorem mStep_grow {d mt pc pc' : Nat} {r : Instr × Nat × Nat × Nat × Int} {ls st ls' st' : List Value} {M M' : mM} (hs : mStep d mt r pc ls st M = some (.inl (pc', ls', st', M'))) : mLn M ≤ mLn M' ∧ mSl M ≤ mSl M' := by
  obtain ⟨i, len, a1, a2, a3⟩ := r
  have hput : ∀ {ci sl ty a : Nat} {v : Value} {M2 : mM}, mPutf ci sl ty M a v = some M2 → mLn M ≤ mLn M2 ∧ mSl M ≤ mSl M2 := by
    intro ci sl ty a v M2 h
    unfold mPutf at h
    split at h
    · split at h <;> first | (cases h; exact ⟨Nat.le_refl _, Nat.le_refl _⟩) | cases h
    · cases h
  have hinv : ∀ {mode y : Nat}, mInv mode y st M = some (.inl (pc', ls', st', M')) → False := by
    intro mode y h
    unfold mInv at h
    split at h
    · cases h
    · split at h
      · split at h <;> cases h
      · split at h
        · split at h <;> cases h
        · cases h
  cases i with
  | putfield ix =>
    simp only [mStep] at hs
    split at hs
    · split at hs
      · rename_i M2 hp
        obtain ⟨-, -, -, rfl⟩ := mGo_inj hs
        exact hput hp
      · cases hs
    · cases hs
  | invokevirtual ix =>
    simp only [mStep] at hs
    split at hs
    · exact (hinv hs).elim
    · cases hs
  | invokestatic ix =>
    simp only [mStep] at hs
    split at hs
    · exact (hinv hs).elim
    · cases hs
  | invokespecial ix =>
    simp only [mStep] at hs
    split at hs
    · split at hs
      · split at hs
        · obtain ⟨-, -, -, rfl⟩ := mGo_inj hs
          exact ⟨Nat.le_refl _, Nat.le_refl _⟩
        · cases hs
      · cases hs
    · split at hs
      · exact (hinv hs).elim
      · cases hs
  | newarray ty =>
    simp only [mStep] at hs
    split at hs
    · split at hs
      · obtain ⟨-, -, -, rfl⟩ := mGo_inj hs
        exact ⟨Nat.le_succ _, Nat.le_add_right _ _⟩
      · cases hs
    · cases hs
  | new ix =>
    simp only [mStep] at hs
    split at hs
    · obtain ⟨-, -, -, rfl⟩ := mGo_inj hs
      exact ⟨Nat.le_succ _, Nat.le_add_right _ _⟩
    · split at hs <;> cases hs
  | _ =>
    simp only [mStep] at hs
    repeat' (split at hs)
    all_goals first | (cases hs; done) | (cases hs; exact ⟨Nat.le_refl _, Nat.le_refl _⟩)
theorem mRun_grow : ∀ n d mt pc ls st M o M', mRun n d mt pc ls st M = some (o, M') → mLn M ≤ mLn M' ∧ mSl M ≤ mSl M' := by
  intro n
  induction n with
  | zero => intro d mt pc ls st M o M' h; cases h
  | succ n ih =>
    intro d mt pc ls st M o M' h
    have h : mBody (mRun n) d mt pc ls st M = some (o, M') := h
    unfold mBody at h
    cases hr : mIns mt pc with
    | none => simp only [hr] at h; cases h
    | some r =>
      simp only [hr] at h
      cases hs : mStep d mt r pc ls st M with
      | none => simp only [hs] at h; cases h
      | some q =>
        simp only [hs] at h
        match q, hs, h with
        | .inl (pc', ls', st', M1), hs, h =>
          have h1 := mStep_grow hs
          have h2 := ih _ _ _ _ _ _ _ _ h
          exact ⟨Nat.le_trans h1.1 h2.1, Nat.le_trans h1.2 h2.2⟩
        | .inr (.inl (y, as, rest)), hs, h =>
          match d, h with
          | 0, h => cases h
          | d' + 1, h =>
            simp only at h
            cases hc : mRun n d' y 0 (mEntry y as) [] M with
            | none => simp only [hc] at h; cases h
            | some w =>
              simp only [hc] at h
              match w, hc, h with
              | (.inl v, M1), hc, h =>
                have h1 := ih _ _ _ _ _ _ _ _ hc
                have h2 := ih _ _ _ _ _ _ _ _ h
                exact ⟨Nat.le_trans h1.1 h2.1, Nat.le_trans h1.2 h2.2⟩
              | (.inr ex, M1), hc, h =>
                simp only at h
                cases hm : mCatch mt pc ex with
                | none => simp only [hm] at h; cases h
                | some hh =>
                  simp only [hm] at h
                  have h1 := ih _ _ _ _ _ _ _ _ hc
                  have h2 := ih _ _ _ _ _ _ _ _ h
                  exact ⟨Nat.le_trans h1.1 h2.1, Nat.le_trans h1.2 h2.2⟩
        | .inr (.inr (.inl v)), hs, h =>
          cases h
          exact ⟨Nat.le_refl _, Nat.le_refl _⟩
        | .inr (.inr (.inr ex)), hs, h =>
          simp only at h
          split at h
          · cases h
            exact ⟨Nat.le_succ _, Nat.le_add_right _ _⟩
          · cases h
def mRm (d : Nat) (M M' : mM) : Room := { frames := d, cells := mLn M' - mLn M, slots := mSl M' - mSl M, locals := d * 60 }
section MCon
variable (D : va_G) (AC EC : Nat → ClassId) (b z0 : Nat) (H0 : Heap) (vm0 : Vm)
def mPc (M : mM) (as : List Value) : Array Value → State → Prop := fun a U => a = (as.map (mUp b z0)).toArray ∧ mRel D AC EC b z0 H0 U M U.heap ∧ mKnow D AC EC U ∧ mExc EC vm0 U
def mOut (r : Option Value ⊕ Nat) (M' : mM) (o : Outcome) : Prop := match r with
  | .inl v => o = .returned (v.map (mUp b z0))
  | .inr ex => o = .threw (mAd b z0 (mLn M' - 1)) ∧ 7 ≤ ex ∧ ex < 10 ∧ 2 ≤ mLn M' ∧ (mK M' (mLn M' - 1)).1 = ex
def mQf (r : Option Value ⊕ Nat) (M M' : mM) : Array Value → State → Outcome → State → Prop := fun _ st o t => mOut b z0 r M' o ∧ mRel D AC EC b z0 H0 st M' t.heap ∧ ∃ L : List Loc, st.WarmedH t.vm ∧ st.sameButNew ({ t with vm := st.vm } : State) L (mLn M' - mLn M) (mSl M' - mSl M) ∧ ∀ q ∈ L, z0 ≤ q.base
end MCon
section MCall2
variable {p : Program} {l : Launch} {e : Env} {R : Room} {s : State} {m : MethodId} {args : Array Value} {below : List Frame} {meth : Method} {c : Code} {Q : State → Prop} {D : va_G} {AC EC : Nat → ClassId} {b z0 : Nat} {H0 : Heap} {vm0 : Vm} {mt m0 s0 : Nat}
theorem mCat_up (st : List Value) : ((st.map (mUp b z0)).map fun v => v.category).sum = mCat st := by
  unfold mCat
  rw [List.map_map]
  congr 1
  apply List.map_congr_left
  intro v _
  exact mUp_cat b z0 v
theorem m_call {d' pc y : Nat} {ls st as rest : List Value} {M M1 : mM} {o : Option Value ⊕ Nat} (F : mFr p s m args meth c mt) (hmt : mt < 153) (K : mKnow D AC EC s) (hE : mExc EC vm0 s) (hy : y < 152) (hcat : mCat rest ≤ 8) (hdec : ∃ ig, decode (mCode mt) pc = .ok (ig, 3))
    (hlk : ∀ (H : Heap) (lsA : Array Slot), mRel D AC EC b z0 H0 s M H → mLink p l e R s m args below meth c y (F0 m pc lsA (st.map (mUp b z0))) (rest.map (mUp b z0)) (as.map (mUp b z0)).toArray H)
    (hM : MetFree l (mY y) (headSpec mWs (mRm d' M M1)) (mPc D AC EC b z0 H0 vm0 M as) (fun _ _ _ _ _ => True) (mQf D AC EC b z0 H0 o M M1)) (hg1 : mLn M ≤ mLn M1) (hg2 : mSl M ≤ mSl M1) (hm0 : m0 ≤ mLn M) (hs0 : s0 ≤ mSl M) (hrc : mLn M1 - m0 ≤ R.cells) (hrs : mSl M1 - s0 ≤ R.slots) (hfr : d' + 1 ≤ R.frames) (hlo : (d' + 1) * 60 ≤ R.locals)
    (kret : ∀ v, o = .inl v → mNx p l e R s m args below meth c Q D AC EC b z0 H0 mt m0 s0 (pc + 3) ls (v.toList ++ rest) M1)
    (kthr : ∀ ex, o = .inr ex → ∃ h, mCatch mt pc ex = some h ∧ mNx p l e R s m args below meth c Q D AC EC b z0 H0 mt m0 s0 h ls [.ref (mLn M1 - 1)] M1) : mNx p l e R s m args below meth c Q D AC EC b z0 H0 mt m0 s0 pc ls st M := by
  intro H locs lsA hR hL hl T hT X
  obtain ⟨mk, vm₁, hnamed, X₁, hstep⟩ := hlk H lsA hR T locs _ _ hT X
  obtain ⟨ig, hd⟩ := hdec
  have hts := F.2.2.2.2.2.1
  have hb := F.2.1
  have hal : s.vm.Alike vm₁ := X₁.warmed.alike
  obtain ⟨mk', methY, cY, kY, n1, n2, n3, n4, n5, n6, n7, n8, n9, n10, n11⟩ := mY_facts (s := T.setVm vm₁) (args := (as.map (mUp b z0)).toArray) (mWs_move X₁.warmed hts) hy
  have hn' := X₁.named hnamed
  cases n1.symm.trans hn'
  have hmax := (mY_plain hy).2.2.2.2
  obtain ⟨oc, t, U', L, hq, e1, e2, hL2, X', hsteps⟩ := m_after (free := fun q => z0 ≤ q) (mc := mLn M1 - mLn M) (ms := mSl M1 - mSl M) (maxL := mMax y) X₁ hM (g := F0 m pc lsA (rest.map (mUp b z0))) rfl (by rw [F.2.2.2.1]; exact hl.2.1) (by rw [hb]; exact hd) (by rw [mCat_up]; show 2 * 0 + mCat rest ≤ 8; omega) hn' n2 n3 n5 n10 n11
    (a := (as.map (mUp b z0)).toArray) hfr (by show 8 + (mMax y + 11) + d' * 60 ≤ R.locals; omega) (atoms_intro (mWs_move X₁.warmed hts)) (by show (mLn M - m0) + (mLn M1 - mLn M) ≤ R.cells; omega) (by show (mSl M - s0) + (mSl M1 - mSl M) ≤ R.slots; omega)
    ⟨rfl, mRel.moved (u := s) (by exact hal) (by rw [← hT] at hR; exact hR), mKnow.moved (u := s) (by exact hal) K, mExc.moved (u := s) (by exact hal) hE⟩ (fun st2 o2 t2 h => h.2.2)
  obtain ⟨ho, hR1, -⟩ := hq
  have hR2 : mRel D AC EC b z0 H0 s M1 t.heap := mRel.moved (by exact hal.symm) hR1
  have c1 : (mLn M - m0) + (mLn M1 - mLn M) = mLn M1 - m0 := by omega
  have c2 : (mSl M - s0) + (mSl M1 - mSl M) = mSl M1 - s0 := by omega
  rw [c1, c2] at X'
  have hL3 : ∀ q ∈ locs ++ L, z0 ≤ q.base := by
    intro q hq
    rcases List.mem_append.mp hq with h | h
    · exact hL q h
    · exact hL2 q h
  cases o with
  | inl v =>
    have ho : oc = .returned (v.map (mUp b z0)) := ho
    subst ho
    obtain ⟨t2, a1, b1⟩ := kret v rfl t.heap (locs ++ L) lsA hR2 hL3 hl U' e1 X'
    refine ⟨t2, hstep _ fun acts => ?_, b1⟩
    rw [doInvoke_state]
    have hsteps : Steps p.tables e below (doInvoke e ((T.setVm vm₁).setTop (F0 m pc lsA (rest.map (mUp b z0)))) [] mk (as.map (mUp b z0)).toArray).1 (U'.setTop (F0 m (pc + 3) lsA ((v.map (mUp b z0)).toList ++ rest.map (mUp b z0)))) := hsteps
    have e3 : (v.map (mUp b z0)).toList ++ rest.map (mUp b z0) = (v.toList ++ rest).map (mUp b z0) := by
      cases v <;> rfl
    rw [e3] at hsteps
    exact hsteps.trans a1
  | inr ex =>
    obtain ⟨ho, x1, x2, x3, x4⟩ := ho
    subst ho
    obtain ⟨h, hm, kk⟩ := kthr ex rfl
    have hmt2 : mt < 152 := by
      rcases Nat.lt_or_ge mt 152 with q | q
      · exact q
      · have : mt = 152 := by omega
        subst this
        have : mCatch 152 pc ex = none := rfl
        rw [this] at hm
        cases hm
    have hcl := hR2.2.2.2.2.1 (mLn M1 - 1) (by omega) (by omega)
    unfold mCell at hcl
    rw [x4, if_neg (by omega), if_neg (by omega), if_neg (by omega), if_neg (by omega), if_neg (by omega)] at hcl
    obtain ⟨cell, y1, y2, y3⟩ := hcl
    obtain ⟨vm2, X2, hst2⟩ := m_catch X' F hmt2 hE (g := F0 m pc lsA (rest.map (mUp b z0))) rfl (by rw [e1]; exact y1) y2 y3 ⟨x1, x2⟩ hm
    obtain ⟨t2, a1, b1⟩ := kk t.heap (locs ++ L) lsA hR2 hL3 hl (U'.setVm vm2) e1 X2
    refine ⟨t2, hstep _ fun acts => ?_, b1⟩
    rw [doInvoke_state]
    exact Steps.trans hsteps (hst2 _ a1)
end MCall2
