/-! every step that stays in its method -/
theorem mGo_inj {pc pc' : Nat} {ls ls' st st' : List Value} {M M' : mM} (h : mGo pc ls st M = some (.inl (pc', ls', st', M'))) : pc = pc' ∧ ls = ls' ∧ st = st' ∧ M = M' := by
  unfold mGo at h
  cases h
  exact ⟨rfl, rfl, rfl, rfl⟩
section MStep3
variable {p : Program} {l : Launch} {e : Env} {R : Room} {s : State} {m : MethodId} {args : Array Value} {below : List Frame} {meth : Method} {c : Code} {Q : State → Prop} {D : va_G} {AC EC : Nat → ClassId} {b z0 : Nat} {H0 : Heap} {mt m0 s0 : Nat}
variable {pc : Nat} {ls st : List Value} {M : mM}
theorem sd_putf {ix ci sl a : Nat} {v : Value} {M2 : mM} (F : mFr p s m args meth c mt) (K : mKnow D AC EC s) (hd : decode (mCode mt) pc = .ok (.putfield ix, 3)) (hci : ci < 7) (hsl : sl < mSz ci) (hlink : mFP (mOwn mt, ix, ci, sl))
    (hfin : (mTOf ci sl).2.2.2 = false ∨ ((mY mt).name = "<init>" ∧ mOwn mt = ci)) (hp : mPutf ci sl (mTag (mTyOf ci sl)) M a v = some M2)
    (k : mNx p l e R s m args below meth c Q D AC EC b z0 H0 mt m0 s0 (pc + 3) ls st M2) : mNx p l e R s m args below meth c Q D AC EC b z0 H0 mt m0 s0 pc ls (v :: .ref a :: st) M := by
  unfold mPutf at hp
  have h0 : (mKd M a).1 = ci := by
    by_cases h0 : (mKd M a).1 = ci
    · exact h0
    · rw [if_neg h0] at hp; cases hp
  rw [if_pos h0] at hp
  have hB := mTyB_all ci hci sl hsl
  split at hp
  · rename_i x ht
    cases hp
    have hty : mTyOf ci sl = .int := by
      generalize mTyOf ci sl = ty at ht hB
      cases ty <;> first | rfl | (simp [mTyB] at hB; done) | (simp [mTag] at ht; done)
    refine sd_put (M2 := wI M a (va_up (mi M a) sl x)) F K hd hci hsl hlink hfin h0 (by rw [hty]; rfl) (by rw [hty]; rfl) rfl rfl rfl (fun j hj => ⟨mU_ne hj, rfl, rfl⟩) (fun j => ?_) k
    show mVal b z0 (mTyOf ci j) (va_up (mi M) a _ a j) (ml M a j) (mr M a j) = _
    rw [mU_eq]
    by_cases hj : j = sl
    · subst hj
      rw [mU_eq, updV, if_pos rfl]
      unfold mVal
      rw [hty]
      rfl
    · rw [mU_ne hj, updV, if_neg hj]
  · rename_i x ht
    cases hp
    have hty : mTyOf ci sl = .long := by
      generalize mTyOf ci sl = ty at ht hB
      cases ty <;> first | rfl | (simp [mTyB] at hB; done) | (simp [mTag] at ht; done)
    refine sd_put (M2 := wL M a (va_up (ml M a) sl x)) F K hd hci hsl hlink hfin h0 (by rw [hty]; rfl) (by rw [hty]; rfl) rfl rfl rfl (fun j hj => ⟨rfl, mU_ne hj, rfl⟩) (fun j => ?_) k
    show mVal b z0 (mTyOf ci j) (mi M a j) (va_up (ml M) a _ a j) (mr M a j) = _
    rw [mU_eq]
    by_cases hj : j = sl
    · subst hj
      rw [mU_eq, updV, if_pos rfl]
      unfold mVal
      rw [hty]
      rfl
    · rw [mU_ne hj, updV, if_neg hj]
  · rename_i x ht
    cases hp
    have hnf : narrow (mTyOf ci sl) (mUp b z0 (.ref x)) = mUp b z0 (.ref x) ∧ fits (mTyOf ci sl) (mUp b z0 (.ref x)) = true ∧ ∀ (xi : Int32) (xl : Int64), mVal b z0 (mTyOf ci sl) xi xl (some x) = mUp b z0 (.ref x) := by
      generalize mTyOf ci sl = ty at ht hB
      cases ty <;> first | exact ⟨rfl, rfl, fun _ _ => rfl⟩ | (simp [mTyB] at hB; done) | (simp [mTag] at ht; done)
    refine sd_put (M2 := wR M a (va_up (mr M a) sl (some x))) F K hd hci hsl hlink hfin h0 hnf.1 hnf.2.1 rfl rfl rfl (fun j hj => ⟨rfl, rfl, mU_ne hj⟩) (fun j => ?_) k
    show mVal b z0 (mTyOf ci j) (mi M a j) (ml M a j) (va_up (mr M) a _ a j) = _
    rw [mU_eq]
    by_cases hj : j = sl
    · subst hj
      rw [mU_eq, updV, if_pos rfl]
      exact hnf.2.2 _ _
    · rw [mU_ne hj, updV, if_neg hj]
  · cases hp

set_option maxHeartbeats 4000000 in
theorem m_step {d : Nat} {r : Instr × Nat × Nat × Nat × Int} {pc' : Nat} {ls' st' : List Value} {M' : mM} (F : mFr p s m args meth c mt) (K : mKnow D AC EC s) (hr : mIns mt pc = some r) (hs : mStep d mt r pc ls st M = some (.inl (pc', ls', st', M')))
    (hm0 : m0 ≤ mLn M) (hs0 : s0 ≤ mSl M) (hrc : mLn M' - m0 ≤ R.cells) (hrs : mSl M' - s0 ≤ R.slots) (hfr : d ≤ R.frames) (hlo : d * 60 ≤ R.locals)
    (k : mNx p l e R s m args below meth c Q D AC EC b z0 H0 mt m0 s0 pc' ls' st' M') : mNx p l e R s m args below meth c Q D AC EC b z0 H0 mt m0 s0 pc ls st M := by
  obtain ⟨hmt, hok⟩ := mIns_ok hr
  obtain ⟨i, len, a1, a2, a3⟩ := r
  simp only [mOkB, Bool.and_eq_true, decide_eq_true_eq] at hok
  obtain ⟨hd, hok⟩ := hok
  have hx := F.1
  have hb := F.2.1
  have hown := F.2.2.2.2.1
  have hts := F.2.2.2.2.2.1
  cases i with
  | iconst n =>
    simp only [Bool.and_eq_true, Bool.or_eq_true, decide_eq_true_eq] at hok
    obtain ⟨rfl, rfl, rfl, rfl⟩ := mGo_inj hs
    obtain ⟨rfl, hv⟩ := hok
    exact fun H locs lsA hR hL hl => lv_iconst hx hb hd hv (k H locs lsA hR hL hl)
  | bipush n =>
    simp only [Bool.and_eq_true, Bool.or_eq_true, decide_eq_true_eq] at hok
    obtain ⟨rfl, rfl, rfl, rfl⟩ := mGo_inj hs
    obtain ⟨rfl, hv⟩ := hok
    exact fun H locs lsA hR hL hl => lv_bipush hx hb hd hv (k H locs lsA hR hL hl)
  | sipush n =>
    simp only [Bool.and_eq_true, Bool.or_eq_true, decide_eq_true_eq] at hok
    obtain ⟨rfl, rfl, rfl, rfl⟩ := mGo_inj hs
    obtain ⟨rfl, hv⟩ := hok
    exact fun H locs lsA hR hL hl => lv_sipush hx hb hd hv (k H locs lsA hR hL hl)
  | lconst n =>
    simp only [Bool.and_eq_true, Bool.or_eq_true, decide_eq_true_eq] at hok
    obtain ⟨rfl, rfl, rfl, rfl⟩ := mGo_inj hs
    obtain ⟨rfl, hv⟩ := hok
    exact fun H locs lsA hR hL hl => lv_lconst hx hb hd hv (k H locs lsA hR hL hl)
  | ldc ix =>
    simp only [Bool.and_eq_true, Bool.or_eq_true, decide_eq_true_eq] at hok
    simp only [mStep] at hs
    split at hs
    · rename_i h1
      obtain ⟨rfl, rfl, rfl, rfl⟩ := mGo_inj hs
      obtain ⟨rfl, hv⟩ := hok
      have hv := hv.resolve_left (fun q => q h1)
      exact fun H locs lsA hR hL hl => lv_ldc hx hb hown (hts _ (mWs_mem (mKT_ok _ hv) rfl)) hd (k H locs lsA hR hL hl)
    · cases hs
  | ldc_w ix =>
    simp only [Bool.and_eq_true, Bool.or_eq_true, decide_eq_true_eq] at hok
    simp only [mStep] at hs
    split at hs
    · rename_i h1
      obtain ⟨rfl, rfl, rfl, rfl⟩ := mGo_inj hs
      obtain ⟨rfl, hv⟩ := hok
      have hv := hv.resolve_left (fun q => q h1)
      exact fun H locs lsA hR hL hl => lv_ldcw hx hb hown (hts _ (mWs_mem (mKT_ok _ hv) rfl)) hd (k H locs lsA hR hL hl)
    · cases hs
  | ldc2_w ix =>
    simp only [Bool.and_eq_true, Bool.or_eq_true, decide_eq_true_eq] at hok
    simp only [mStep] at hs
    split at hs
    · rename_i h1
      obtain ⟨rfl, rfl, rfl, rfl⟩ := mGo_inj hs
      obtain ⟨rfl, hv⟩ := hok
      have hv := hv.resolve_left (fun q => q h1)
      exact fun H locs lsA hR hL hl => lv_ldc2 hx hb hown (hts _ (mWs_mem (mLT_ok _ hv) rfl)) hd (k H locs lsA hR hL hl)
    · cases hs
  | iload_n j =>
    simp only [Bool.and_eq_true, Bool.or_eq_true, decide_eq_true_eq] at hok
    simp only [mStep] at hs
    split at hs
    · rename_i x hv
      obtain ⟨rfl, rfl, rfl, rfl⟩ := mGo_inj hs
      subst hok
      exact fun H locs lsA hR hL hl => lv_iload_n hx hb hd rfl (hl.at hv rfl) (k H locs lsA hR hL hl)
    · cases hs
  | iload j =>
    simp only [Bool.and_eq_true, Bool.or_eq_true, decide_eq_true_eq] at hok
    simp only [mStep] at hs
    split at hs
    · rename_i x hv
      obtain ⟨rfl, rfl, rfl, rfl⟩ := mGo_inj hs
      subst hok
      exact fun H locs lsA hR hL hl => lv_iload hx hb hd (hl.at hv rfl) (k H locs lsA hR hL hl)
    · cases hs
  | lload_n j =>
    simp only [Bool.and_eq_true, Bool.or_eq_true, decide_eq_true_eq] at hok
    simp only [mStep] at hs
    split at hs
    · rename_i x hv
      obtain ⟨rfl, rfl, rfl, rfl⟩ := mGo_inj hs
      subst hok
      exact fun H locs lsA hR hL hl => lv_lload_n hx hb hd rfl (hl.at hv rfl) (k H locs lsA hR hL hl)
    · cases hs
  | lload j =>
    simp only [Bool.and_eq_true, Bool.or_eq_true, decide_eq_true_eq] at hok
    simp only [mStep] at hs
    split at hs
    · rename_i x hv
      obtain ⟨rfl, rfl, rfl, rfl⟩ := mGo_inj hs
      subst hok
      exact fun H locs lsA hR hL hl => lv_lload hx hb hd (hl.at hv rfl) (k H locs lsA hR hL hl)
    · cases hs
  | aload_n j =>
    simp only [Bool.and_eq_true, Bool.or_eq_true, decide_eq_true_eq] at hok
    simp only [mStep] at hs
    split at hs
    · rename_i x hv
      obtain ⟨rfl, rfl, rfl, rfl⟩ := mGo_inj hs
      subst hok
      exact fun H locs lsA hR hL hl => lv_aload_n hx hb hd rfl (hl.at hv rfl) (k H locs lsA hR hL hl)
    · cases hs
  | aload j =>
    simp only [Bool.and_eq_true, Bool.or_eq_true, decide_eq_true_eq] at hok
    simp only [mStep] at hs
    split at hs
    · rename_i x hv
      obtain ⟨rfl, rfl, rfl, rfl⟩ := mGo_inj hs
      subst hok
      exact fun H locs lsA hR hL hl => lv_aload hx hb hd (hl.at hv rfl) (k H locs lsA hR hL hl)
    · cases hs
  | istore_n j =>
    simp only [Bool.and_eq_true, Bool.or_eq_true, decide_eq_true_eq] at hok
    simp only [mStep] at hs
    split at hs
    · rename_i x st1
      obtain ⟨rfl, rfl, rfl, rfl⟩ := mGo_inj hs
      obtain ⟨rfl, hj⟩ := hok
      exact fun H locs lsA hR hL hl => lv_istore_n hx hb hd rfl hl.2 hj rfl (fun lsB hB => k H locs lsB hR hL (hl.sto1 (v := .int x) hj hB))
    · cases hs
  | istore j =>
    simp only [Bool.and_eq_true, Bool.or_eq_true, decide_eq_true_eq] at hok
    simp only [mStep] at hs
    split at hs
    · rename_i x st1
      obtain ⟨rfl, rfl, rfl, rfl⟩ := mGo_inj hs
      obtain ⟨rfl, hj⟩ := hok
      exact fun H locs lsA hR hL hl => lv_istore hx hb hd hl.2 hj rfl (fun lsB hB => k H locs lsB hR hL (hl.sto1 (v := .int x) hj hB))
    · cases hs
  | astore_n j =>
    simp only [Bool.and_eq_true, Bool.or_eq_true, decide_eq_true_eq] at hok
    simp only [mStep] at hs
    split at hs
    · rename_i x st1
      obtain ⟨rfl, rfl, rfl, rfl⟩ := mGo_inj hs
      obtain ⟨rfl, hj⟩ := hok
      exact fun H locs lsA hR hL hl => lv_astore_n hx hb hd rfl hl.2 hj rfl (fun lsB hB => k H locs lsB hR hL (hl.sto1 (v := .ref x) hj hB))
    · cases hs
  | astore j =>
    simp only [Bool.and_eq_true, Bool.or_eq_true, decide_eq_true_eq] at hok
    simp only [mStep] at hs
    split at hs
    · rename_i x st1
      obtain ⟨rfl, rfl, rfl, rfl⟩ := mGo_inj hs
      obtain ⟨rfl, hj⟩ := hok
      exact fun H locs lsA hR hL hl => lv_astore hx hb hd hl.2 hj rfl (fun lsB hB => k H locs lsB hR hL (hl.sto1 (v := .ref x) hj hB))
    · cases hs
  | lstore_n j =>
    simp only [Bool.and_eq_true, Bool.or_eq_true, decide_eq_true_eq] at hok
    simp only [mStep] at hs
    split at hs
    · rename_i x st1
      obtain ⟨rfl, rfl, rfl, rfl⟩ := mGo_inj hs
      obtain ⟨rfl, hj⟩ := hok
      exact fun H locs lsA hR hL hl => lv_lstore_n hx hb hd rfl hl.2 hj rfl (fun lsB hB => k H locs lsB hR hL (hl.sto2 (v := .long x) hj hB))
    · cases hs
  | lstore j =>
    simp only [Bool.and_eq_true, Bool.or_eq_true, decide_eq_true_eq] at hok
    simp only [mStep] at hs
    split at hs
    · rename_i x st1
      obtain ⟨rfl, rfl, rfl, rfl⟩ := mGo_inj hs
      obtain ⟨rfl, hj⟩ := hok
      exact fun H locs lsA hR hL hl => lv_lstore hx hb hd hl.2 hj rfl (fun lsB hB => k H locs lsB hR hL (hl.sto2 (v := .long x) hj hB))
    · cases hs
  | iinc j n =>
    simp only [Bool.and_eq_true, Bool.or_eq_true, decide_eq_true_eq] at hok
    simp only [mStep] at hs
    split at hs
    · rename_i x hv
      obtain ⟨rfl, rfl, rfl, rfl⟩ := mGo_inj hs
      subst hok
      have hj : j < mMax mt → True := fun _ => trivial
      refine fun H locs lsA hR hL hl => ?_
      have hlt : j < ls.length := mNth_lt (by rw [hv]; rfl)
      have hmem := (mLv_mem (b := b) (z0 := z0) ls 0 j _).mpr ⟨j, by omega, hlt, by rw [hv]; rfl, rfl⟩
      rw [hv] at hmem
      obtain ⟨kk, hkk⟩ := List.getElem?_of_mem hmem
      exact lv_iinc (v := x + iI n) hx hb hd hl.2 hkk rfl (by rw [← hl.1]; exact hlt) rfl (fun lsB hB => k H locs lsB hR hL (hl.sto1 (v := .int (x + iI n)) (by rw [← hl.1]; exact hlt) hB))
    · cases hs
  | dup =>
    simp only [Bool.and_eq_true, Bool.or_eq_true, decide_eq_true_eq] at hok
    simp only [mStep] at hs
    subst hok
    split at hs
    · obtain ⟨rfl, rfl, rfl, rfl⟩ := mGo_inj hs
      exact fun H locs lsA hR hL hl => lv_dup hx hb hd rfl (k H locs lsA hR hL hl)
    · obtain ⟨rfl, rfl, rfl, rfl⟩ := mGo_inj hs
      exact fun H locs lsA hR hL hl => lv_dup hx hb hd rfl (k H locs lsA hR hL hl)
    · cases hs
  | dup2 =>
    simp only [Bool.and_eq_true, Bool.or_eq_true, decide_eq_true_eq] at hok
    simp only [mStep] at hs
    subst hok
    split at hs
    · obtain ⟨rfl, rfl, rfl, rfl⟩ := mGo_inj hs
      exact fun H locs lsA hR hL hl => lv_dup2_11 hx hb hd rfl rfl (k H locs lsA hR hL hl)
    · cases hs
  | iadd =>
    simp only [Bool.and_eq_true, Bool.or_eq_true, decide_eq_true_eq] at hok
    simp only [mStep] at hs
    subst hok
    split at hs
    · obtain ⟨rfl, rfl, rfl, rfl⟩ := mGo_inj hs
      exact fun H locs lsA hR hL hl => lv_iadd hx hb hd (k H locs lsA hR hL hl)
    · cases hs
  | isub =>
    simp only [Bool.and_eq_true, Bool.or_eq_true, decide_eq_true_eq] at hok
    simp only [mStep] at hs
    subst hok
    split at hs
    · obtain ⟨rfl, rfl, rfl, rfl⟩ := mGo_inj hs
      exact fun H locs lsA hR hL hl => lv_isub hx hb hd (k H locs lsA hR hL hl)
    · cases hs
  | imul =>
    simp only [Bool.and_eq_true, Bool.or_eq_true, decide_eq_true_eq] at hok
    simp only [mStep] at hs
    subst hok
    split at hs
    · obtain ⟨rfl, rfl, rfl, rfl⟩ := mGo_inj hs
      exact fun H locs lsA hR hL hl => lv_imul hx hb hd (k H locs lsA hR hL hl)
    · cases hs
  | ishl =>
    simp only [Bool.and_eq_true, Bool.or_eq_true, decide_eq_true_eq] at hok
    simp only [mStep] at hs
    subst hok
    split at hs
    · obtain ⟨rfl, rfl, rfl, rfl⟩ := mGo_inj hs
      exact fun H locs lsA hR hL hl => lv_ishl hx hb hd (k H locs lsA hR hL hl)
    · cases hs
  | ishr =>
    simp only [Bool.and_eq_true, Bool.or_eq_true, decide_eq_true_eq] at hok
    simp only [mStep] at hs
    subst hok
    split at hs
    · obtain ⟨rfl, rfl, rfl, rfl⟩ := mGo_inj hs
      exact fun H locs lsA hR hL hl => lv_ishr hx hb hd (k H locs lsA hR hL hl)
    · cases hs
  | iand =>
    simp only [Bool.and_eq_true, Bool.or_eq_true, decide_eq_true_eq] at hok
    simp only [mStep] at hs
    subst hok
    split at hs
    · obtain ⟨rfl, rfl, rfl, rfl⟩ := mGo_inj hs
      exact fun H locs lsA hR hL hl => lv_iand hx hb hd (k H locs lsA hR hL hl)
    · cases hs
  | ior =>
    simp only [Bool.and_eq_true, Bool.or_eq_true, decide_eq_true_eq] at hok
    simp only [mStep] at hs
    subst hok
    split at hs
    · obtain ⟨rfl, rfl, rfl, rfl⟩ := mGo_inj hs
      exact fun H locs lsA hR hL hl => lv_ior hx hb hd (k H locs lsA hR hL hl)
    · cases hs
  | ixor =>
    simp only [Bool.and_eq_true, Bool.or_eq_true, decide_eq_true_eq] at hok
    simp only [mStep] at hs
    subst hok
    split at hs
    · obtain ⟨rfl, rfl, rfl, rfl⟩ := mGo_inj hs
      exact fun H locs lsA hR hL hl => lv_ixor hx hb hd (k H locs lsA hR hL hl)
    · cases hs
  | ladd =>
    simp only [Bool.and_eq_true, Bool.or_eq_true, decide_eq_true_eq] at hok
    simp only [mStep] at hs
    subst hok
    split at hs
    · obtain ⟨rfl, rfl, rfl, rfl⟩ := mGo_inj hs
      exact fun H locs lsA hR hL hl => lv_ladd hx hb hd (k H locs lsA hR hL hl)
    · cases hs
  | lsub =>
    simp only [Bool.and_eq_true, Bool.or_eq_true, decide_eq_true_eq] at hok
    simp only [mStep] at hs
    subst hok
    split at hs
    · obtain ⟨rfl, rfl, rfl, rfl⟩ := mGo_inj hs
      exact fun H locs lsA hR hL hl => lv_lsub hx hb hd (k H locs lsA hR hL hl)
    · cases hs
  | lmul =>
    simp only [Bool.and_eq_true, Bool.or_eq_true, decide_eq_true_eq] at hok
    simp only [mStep] at hs
    subst hok
    split at hs
    · obtain ⟨rfl, rfl, rfl, rfl⟩ := mGo_inj hs
      exact fun H locs lsA hR hL hl => lv_lmul hx hb hd (k H locs lsA hR hL hl)
    · cases hs
  | land =>
    simp only [Bool.and_eq_true, Bool.or_eq_true, decide_eq_true_eq] at hok
    simp only [mStep] at hs
    subst hok
    split at hs
    · obtain ⟨rfl, rfl, rfl, rfl⟩ := mGo_inj hs
      exact fun H locs lsA hR hL hl => lv_land hx hb hd (k H locs lsA hR hL hl)
    · cases hs
  | lor =>
    simp only [Bool.and_eq_true, Bool.or_eq_true, decide_eq_true_eq] at hok
    simp only [mStep] at hs
    subst hok
    split at hs
    · obtain ⟨rfl, rfl, rfl, rfl⟩ := mGo_inj hs
      exact fun H locs lsA hR hL hl => lv_lor hx hb hd (k H locs lsA hR hL hl)
    · cases hs
  | ineg =>
    simp only [Bool.and_eq_true, Bool.or_eq_true, decide_eq_true_eq] at hok
    simp only [mStep] at hs
    subst hok
    split at hs
    · obtain ⟨rfl, rfl, rfl, rfl⟩ := mGo_inj hs
      exact fun H locs lsA hR hL hl => lv_ineg hx hb hd (k H locs lsA hR hL hl)
    · cases hs
  | iushr =>
    simp only [Bool.and_eq_true, Bool.or_eq_true, decide_eq_true_eq] at hok
    simp only [mStep] at hs
    subst hok
    split at hs
    · obtain ⟨rfl, rfl, rfl, rfl⟩ := mGo_inj hs
      exact fun H locs lsA hR hL hl => lv_iushr hx hb hd rfl (k H locs lsA hR hL hl)
    · cases hs
  | lshl =>
    simp only [Bool.and_eq_true, Bool.or_eq_true, decide_eq_true_eq] at hok
    simp only [mStep] at hs
    subst hok
    split at hs
    · obtain ⟨rfl, rfl, rfl, rfl⟩ := mGo_inj hs
      exact fun H locs lsA hR hL hl => lv_lshl hx hb hd rfl (k H locs lsA hR hL hl)
    · cases hs
  | lshr =>
    simp only [Bool.and_eq_true, Bool.or_eq_true, decide_eq_true_eq] at hok
    simp only [mStep] at hs
    subst hok
    split at hs
    · obtain ⟨rfl, rfl, rfl, rfl⟩ := mGo_inj hs
      exact fun H locs lsA hR hL hl => lv_lshr hx hb hd rfl (k H locs lsA hR hL hl)
    · cases hs
  | i2l =>
    simp only [Bool.and_eq_true, Bool.or_eq_true, decide_eq_true_eq] at hok
    simp only [mStep] at hs
    subst hok
    split at hs
    · obtain ⟨rfl, rfl, rfl, rfl⟩ := mGo_inj hs
      exact fun H locs lsA hR hL hl => lv_i2l hx hb hd rfl (k H locs lsA hR hL hl)
    · cases hs
  | l2i =>
    simp only [Bool.and_eq_true, Bool.or_eq_true, decide_eq_true_eq] at hok
    simp only [mStep] at hs
    subst hok
    split at hs
    · obtain ⟨rfl, rfl, rfl, rfl⟩ := mGo_inj hs
      exact fun H locs lsA hR hL hl => lv_l2i hx hb hd rfl (k H locs lsA hR hL hl)
    · cases hs
  | lcmp =>
    simp only [Bool.and_eq_true, Bool.or_eq_true, decide_eq_true_eq] at hok
    simp only [mStep] at hs
    subst hok
    split at hs
    · obtain ⟨rfl, rfl, rfl, rfl⟩ := mGo_inj hs
      exact fun H locs lsA hR hL hl => W.lcmp hx hb hd (k H locs lsA hR hL hl)
    · cases hs
  | idiv =>
    simp only [Bool.and_eq_true, Bool.or_eq_true, decide_eq_true_eq] at hok
    simp only [mStep] at hs
    subst hok
    split at hs
    · split at hs
      · cases hs
      · rename_i hy
        obtain ⟨rfl, rfl, rfl, rfl⟩ := mGo_inj hs
        exact fun H locs lsA hR hL hl => lv_idiv hx hb hd hy (k H locs lsA hR hL hl)
    · cases hs
  | irem =>
    simp only [Bool.and_eq_true, Bool.or_eq_true, decide_eq_true_eq] at hok
    simp only [mStep] at hs
    subst hok
    split at hs
    · split at hs
      · cases hs
      · rename_i hy
        obtain ⟨rfl, rfl, rfl, rfl⟩ := mGo_inj hs
        exact fun H locs lsA hR hL hl => lv_irem hx hb hd hy (k H locs lsA hR hL hl)
    · cases hs
  | ldiv =>
    simp only [Bool.and_eq_true, Bool.or_eq_true, decide_eq_true_eq] at hok
    simp only [mStep] at hs
    subst hok
    split at hs
    · split at hs
      · cases hs
      · rename_i hy
        obtain ⟨rfl, rfl, rfl, rfl⟩ := mGo_inj hs
        exact fun H locs lsA hR hL hl => lv_ldiv hx hb hd hy (k H locs lsA hR hL hl)
    · cases hs
  | lrem =>
    simp only [Bool.and_eq_true, Bool.or_eq_true, decide_eq_true_eq] at hok
    simp only [mStep] at hs
    subst hok
    split at hs
    · split at hs
      · cases hs
      · rename_i hy
        obtain ⟨rfl, rfl, rfl, rfl⟩ := mGo_inj hs
        exact fun H locs lsA hR hL hl => lv_lrem hx hb hd hy (k H locs lsA hR hL hl)
    · cases hs
  | goto off =>
    simp only [Bool.and_eq_true, Bool.or_eq_true, decide_eq_true_eq] at hok
    obtain ⟨rfl, rfl, rfl, rfl⟩ := mGo_inj hs
    obtain ⟨rfl, ht⟩ := hok
    exact fun H locs lsA hR hL hl => lv_goto hx hb hd ht (k H locs lsA hR hL hl)
  | ifCond cnd off =>
    simp only [Bool.and_eq_true, Bool.or_eq_true, decide_eq_true_eq] at hok
    simp only [mStep] at hs
    obtain ⟨rfl, ht⟩ := hok
    split at hs
    · split at hs
      · rename_i hc
        obtain ⟨rfl, rfl, rfl, rfl⟩ := mGo_inj hs
        intro H locs lsA hR hL hl
        have kk := k H locs lsA hR hL hl
        cases cnd
        · exact lv_if_eq hx hb hd ht (fun _ => kk) (fun q => absurd (of_decide_eq_true hc) q)
        · exact lv_if_ne hx hb hd ht (fun _ => kk) (fun q => absurd q (of_decide_eq_true hc))
        · exact lv_if_lt hx hb hd ht (fun _ => kk) (fun q => absurd (of_decide_eq_true hc) q)
        · exact lv_if_ge hx hb hd ht (fun _ => kk) (fun q => absurd (of_decide_eq_true hc) q)
        · exact lv_if_gt hx hb hd ht (fun _ => kk) (fun q => absurd (of_decide_eq_true hc) q)
        · exact lv_if_le hx hb hd ht (fun _ => kk) (fun q => absurd (of_decide_eq_true hc) q)
      · rename_i hc
        obtain ⟨rfl, rfl, rfl, rfl⟩ := mGo_inj hs
        intro H locs lsA hR hL hl
        have kk := k H locs lsA hR hL hl
        cases cnd
        · exact lv_if_eq hx hb hd ht (fun q => absurd (decide_eq_true q) hc) (fun _ => kk)
        · exact lv_if_ne hx hb hd ht (fun q => absurd (decide_eq_true q) hc) (fun _ => kk)
        · exact lv_if_lt hx hb hd ht (fun q => absurd (decide_eq_true q) hc) (fun _ => kk)
        · exact lv_if_ge hx hb hd ht (fun q => absurd (decide_eq_true q) hc) (fun _ => kk)
        · exact lv_if_gt hx hb hd ht (fun q => absurd (decide_eq_true q) hc) (fun _ => kk)
        · exact lv_if_le hx hb hd ht (fun q => absurd (decide_eq_true q) hc) (fun _ => kk)
    · cases hs
  | if_icmp cnd off =>
    simp only [Bool.and_eq_true, Bool.or_eq_true, decide_eq_true_eq] at hok
    simp only [mStep] at hs
    obtain ⟨rfl, ht⟩ := hok
    split at hs
    · split at hs
      · rename_i hc
        obtain ⟨rfl, rfl, rfl, rfl⟩ := mGo_inj hs
        intro H locs lsA hR hL hl
        have kk := k H locs lsA hR hL hl
        cases cnd
        · exact lv_icmp_eq hx hb hd ht (fun _ => kk) (fun q => absurd (of_decide_eq_true hc) q)
        · exact lv_icmp_ne hx hb hd ht (fun _ => kk) (fun q => absurd q (of_decide_eq_true hc))
        · exact lv_icmp_lt hx hb hd ht (fun _ => kk) (fun q => absurd (of_decide_eq_true hc) q)
        · exact lv_icmp_ge hx hb hd ht (fun _ => kk) (fun q => absurd (of_decide_eq_true hc) q)
        · exact lv_icmp_gt hx hb hd ht (fun _ => kk) (fun q => absurd (of_decide_eq_true hc) q)
        · exact lv_icmp_le hx hb hd ht (fun _ => kk) (fun q => absurd (of_decide_eq_true hc) q)
      · rename_i hc
        obtain ⟨rfl, rfl, rfl, rfl⟩ := mGo_inj hs
        intro H locs lsA hR hL hl
        have kk := k H locs lsA hR hL hl
        cases cnd
        · exact lv_icmp_eq hx hb hd ht (fun q => absurd (decide_eq_true q) hc) (fun _ => kk)
        · exact lv_icmp_ne hx hb hd ht (fun q => absurd (decide_eq_true q) hc) (fun _ => kk)
        · exact lv_icmp_lt hx hb hd ht (fun q => absurd (decide_eq_true q) hc) (fun _ => kk)
        · exact lv_icmp_ge hx hb hd ht (fun q => absurd (decide_eq_true q) hc) (fun _ => kk)
        · exact lv_icmp_gt hx hb hd ht (fun q => absurd (decide_eq_true q) hc) (fun _ => kk)
        · exact lv_icmp_le hx hb hd ht (fun q => absurd (decide_eq_true q) hc) (fun _ => kk)
    · cases hs
  | tableswitch df lo hi offs =>
    simp only [Bool.and_eq_true, Bool.or_eq_true, decide_eq_true_eq] at hok
    simp only [mStep] at hs
    obtain ⟨⟨⟨h1, h2⟩, h3⟩, h4⟩ := hok
    split at hs
    · split at hs
      · rename_i hc
        obtain ⟨rfl, rfl, rfl, rfl⟩ := mGo_inj hs
        exact fun H locs lsA hR hL hl => lv_tableOut hx hb hd hc (Int.toNat_of_nonneg h1).symm (k H locs lsA hR hL hl)
      · rename_i x st1 hc
        obtain ⟨rfl, rfl, rfl, rfl⟩ := mGo_inj hs
        intro H locs lsA hR hL hl
        have hlt : (x.toInt - lo).toNat < offs.size := by rw [h4]; omega
        have hget : offs[(x.toInt - lo).toNat]? = some (mPick offs.toList (x.toInt - lo).toNat 0) := by
          unfold mPick
          rw [List.getD_eq_getElem?_getD, ← Array.getElem?_toList]
          rw [List.getElem?_eq_getElem (by simpa using hlt)]
          rfl
        have hnn : 0 ≤ (pc : Int) + mPick offs.toList (x.toInt - lo).toNat 0 := by
          have hm : mPick offs.toList (x.toInt - lo).toNat 0 ∈ offs.toList := by
            rw [← Array.getElem?_toList] at hget
            exact List.mem_of_getElem? hget
          exact of_decide_eq_true (List.all_eq_true.mp h2 _ hm)
        exact lv_tableIn hx hb hd (by omega) (by omega) hget (Int.toNat_of_nonneg hnn).symm (k H locs lsA hR hL hl)
    · cases hs
  | getfield ix =>
    simp only [Bool.and_eq_true, Bool.or_eq_true, decide_eq_true_eq] at hok
    simp only [mStep] at hs
    obtain ⟨⟨⟨⟨rfl, hm⟩, hci⟩, hsl⟩, htg⟩ := hok
    split at hs
    · split at hs
      · rename_i v hg
        obtain ⟨rfl, rfl, rfl, rfl⟩ := mGo_inj hs
        rw [← htg] at hg
        exact sd_getf F K hd hci hsl (mFT_ok _ hm) hg k
      · cases hs
    · cases hs
  | putfield ix =>
    simp only [Bool.and_eq_true, Bool.or_eq_true, decide_eq_true_eq] at hok
    simp only [mStep] at hs
    obtain ⟨⟨⟨⟨⟨rfl, hm⟩, hci⟩, hsl⟩, htg⟩, hfin⟩ := hok
    split at hs
    · split at hs
      · rename_i M2 hg
        obtain ⟨rfl, rfl, rfl, rfl⟩ := mGo_inj hs
        rw [← htg] at hg
        exact sd_putf F K hd hci hsl (mFT_ok _ hm) hfin hg k
      · cases hs
    · cases hs
  | iaload =>
    simp only [Bool.and_eq_true, Bool.or_eq_true, decide_eq_true_eq] at hok
    simp only [mStep] at hs
    subst hok
    split at hs
    · split at hs
      · rename_i hc
        obtain ⟨rfl, rfl, rfl, rfl⟩ := mGo_inj hs
        exact sd_iald F K hd hc.1 hc.2 k
      · cases hs
    · cases hs
  | laload =>
    simp only [Bool.and_eq_true, Bool.or_eq_true, decide_eq_true_eq] at hok
    simp only [mStep] at hs
    subst hok
    split at hs
    · split at hs
      · rename_i hc
        obtain ⟨rfl, rfl, rfl, rfl⟩ := mGo_inj hs
        exact sd_lald F K hd hc.1 hc.2 k
      · cases hs
    · cases hs
  | baload =>
    simp only [Bool.and_eq_true, Bool.or_eq_true, decide_eq_true_eq] at hok
    simp only [mStep] at hs
    subst hok
    split at hs
    · split at hs
      · rename_i hc
        obtain ⟨rfl, rfl, rfl, rfl⟩ := mGo_inj hs
        exact sd_bald F K hd hc.1 hc.2 k
      · cases hs
    · cases hs
  | iastore =>
    simp only [Bool.and_eq_true, Bool.or_eq_true, decide_eq_true_eq] at hok
    simp only [mStep] at hs
    subst hok
    split at hs
    · split at hs
      · rename_i hc
        obtain ⟨rfl, rfl, rfl, rfl⟩ := mGo_inj hs
        exact sd_iast F K hd hc.1 hc.2 k
      · cases hs
    · cases hs
  | lastore =>
    simp only [Bool.and_eq_true, Bool.or_eq_true, decide_eq_true_eq] at hok
    simp only [mStep] at hs
    subst hok
    split at hs
    · split at hs
      · rename_i hc
        obtain ⟨rfl, rfl, rfl, rfl⟩ := mGo_inj hs
        exact sd_last F K hd hc.1 hc.2 k
      · cases hs
    · cases hs
  | bastore =>
    simp only [Bool.and_eq_true, Bool.or_eq_true, decide_eq_true_eq] at hok
    simp only [mStep] at hs
    subst hok
    split at hs
    · split at hs
      · rename_i hc
        obtain ⟨rfl, rfl, rfl, rfl⟩ := mGo_inj hs
        exact sd_bast F K hd hc.1 hc.2.1 hc.2.2 k
      · cases hs
    · cases hs
  | arraylength =>
    simp only [Bool.and_eq_true, Bool.or_eq_true, decide_eq_true_eq] at hok
    simp only [mStep] at hs
    subst hok
    split at hs
    · split at hs
      · rename_i hc
        obtain ⟨rfl, rfl, rfl, rfl⟩ := mGo_inj hs
        exact sd_alen F K hd hc k
      · cases hs
    · cases hs
  | newarray ty =>
    simp only [Bool.and_eq_true, Bool.or_eq_true, decide_eq_true_eq] at hok
    simp only [mStep] at hs
    obtain ⟨rfl, hty⟩ := hok
    split at hs
    · split at hs
      · rename_i hc
        obtain ⟨rfl, rfl, rfl, rfl⟩ := mGo_inj hs
        refine sd_newa F K hd ?_ hc.1 hc.2 hm0 hs0 hrc hrs k
        cases ty <;> first | exact Or.inl ⟨rfl, of_decide_eq_true hty⟩ | exact Or.inr (Or.inl ⟨rfl, of_decide_eq_true hty⟩) | exact Or.inr (Or.inr ⟨rfl, of_decide_eq_true hty⟩) | cases hty
      · cases hs
    · cases hs
  | new ix =>
    simp only [Bool.and_eq_true, Bool.or_eq_true, decide_eq_true_eq] at hok
    simp only [mStep] at hs
    split at hs
    · rename_i hc
      rw [if_pos hc] at hok
      simp only [Bool.and_eq_true, decide_eq_true_eq] at hok
      obtain ⟨rfl, hm, hz⟩ := hok
      obtain ⟨rfl, rfl, rfl, rfl⟩ := mGo_inj hs
      subst hz
      exact sd_new F K hd hc (mCT_ok _ hm) hm0 hs0 hrc hrs k
    · split at hs <;> cases hs
  | invokespecial ix =>
    simp only [Bool.and_eq_true, Bool.or_eq_true, decide_eq_true_eq] at hok
    simp only [mStep] at hs
    split at hs
    · rename_i h5
      rw [if_pos h5] at hok
      simp only [decide_eq_true_eq] at hok
      obtain ⟨rfl, hm⟩ := hok
      split at hs
      · rename_i a st1
        split at hs
        · rename_i hc
          obtain ⟨rfl, rfl, rfl, rfl⟩ := mGo_inj hs
          intro H locs lsA hR hL hl
          refine W.objInit (g := F0 m pc lsA (.ref (mAd b z0 a) :: st1.map (mUp b z0))) hx hb hown (hts _ (mWs_mem (mOT_ok _ hm) rfl)) (hts _ (mWs_mem mObj.1 rfl)) (hts _ (mWs_mem mObj.2 rfl)) rfl (by rw [F.2.2.2.1]; exact hl.2.1) rfl hd (by omega) ?_ (k H locs lsA hR hL hl)
          have hcat : ((st1.map (mUp b z0)).map fun v => v.category).sum = mCat st1 := by
            unfold mCat
            rw [List.map_map]
            congr 1
            apply List.map_congr_left
            intro v _
            exact mUp_cat b z0 v
          rw [hcat]
          show 2 * 0 + _ + 12 ≤ R.locals
          omega
        · cases hs
      · cases hs
    · split at hs
      · unfold mInv at hs
        split at hs
        · cases hs
        · split at hs
          · split at hs <;> cases hs
          · split at hs
            · split at hs <;> cases hs
            · cases hs
      · cases hs
  | invokevirtual ix =>
    simp only [Bool.and_eq_true, Bool.or_eq_true, decide_eq_true_eq] at hok
    simp only [mStep] at hs
    split at hs
    · unfold mInv at hs
      split at hs
      · cases hs
      · split at hs
        · split at hs <;> cases hs
        · split at hs
          · split at hs <;> cases hs
          · cases hs
    · cases hs
  | invokestatic ix =>
    simp only [Bool.and_eq_true, Bool.or_eq_true, decide_eq_true_eq] at hok
    simp only [mStep] at hs
    split at hs
    · unfold mInv at hs
      split at hs
      · cases hs
      · split at hs
        · split at hs <;> cases hs
        · split at hs
          · split at hs <;> cases hs
          · cases hs
    · cases hs
  | ireturn =>
    simp only [Bool.and_eq_true, Bool.or_eq_true, decide_eq_true_eq] at hok
    simp only [mStep] at hs
    split at hs
    · split at hs <;> cases hs
    · cases hs
  | lreturn =>
    simp only [Bool.and_eq_true, Bool.or_eq_true, decide_eq_true_eq] at hok
    simp only [mStep] at hs
    split at hs
    · split at hs <;> cases hs
    · cases hs
  | return_ =>
    simp only [Bool.and_eq_true, Bool.or_eq_true, decide_eq_true_eq] at hok
    simp only [mStep] at hs
    split at hs
    · split at hs <;> cases hs
    · cases hs
  | _ => cases hs
end MStep3
