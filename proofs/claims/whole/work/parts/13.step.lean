/-! ONE STEP of the middle machine is steps of the real one -/
def mGood : Cond → Bool
  | .methodLinkNest .. => true
  | .castable .. => true
  | .declares _ => true
  | .stringRef .. => true
  | w => goodWord w
/-- the words that every state of the run keeps -/
def mWs : List Cond := lw_tbl.filter mGood
theorem mWs_mem {w : Cond} (h : w ∈ lw_tbl) (hg : mGood w = true) : w ∈ mWs := List.mem_filter.mpr ⟨h, hg⟩
theorem mWs_move {s U : State} {a a' : Array Value} (hW : s.WarmedH U.vm) (h : ∀ w ∈ mWs, w.before a s = true) : ∀ w ∈ mWs, w.before a' U = true := by
  intro w hw
  have hb := h w hw
  have hg := (List.mem_filter.mp hw).2
  cases w with
  | methodLinkNest c i x hh => exact va_Nw.use rfl (va_Nw.warmM hW (va_Nw.of rfl hb))
  | castable x y => exact va_tabs rfl (rfl : (s.setVm U.vm).vm = U.vm) (Cond.before_shiftedFace (State.Shifted.of_warmed hW) _ rfl hb)
  | declares x => exact va_tabs rfl (rfl : (s.setVm U.vm).vm = U.vm) (Cond.before_shiftedFace (State.Shifted.of_warmed hW) _ rfl hb)
  | stringRef c i t => exact (Cond.stringRef_warmed (args := a) hW hb : (Cond.stringRef c i t).before a (s.setVm U.vm) = true)
  | _ => exact word_at hW (good_of_word hg) hb
def mFr (p : Program) (s : State) (m : MethodId) (args : Array Value) (meth : Method) (c : Code) (mt : Nat) : Prop :=
  p.tables.exec = Jvm.exec ∧ c.code = mCode mt ∧ meth.sig.returnType = mRet mt ∧ c.maxLocals = mMax mt ∧ s.vm.findClass (mOwnN (mOwn mt)) = some m.cls ∧ (∀ w ∈ mWs, w.before args s = true) ∧ meth.locks = false ∧ meth.name = (mY mt).name ∧ c.exceptionTable.toList = tableOf (mHan mt)
theorem mLay_in {ci : Nat} (h : ci < 7) : ∀ w ∈ u_ws (mNm ci) (mTOf ci) (mSz ci), w ∈ mWs := by
  intro w hw
  refine mWs_mem (mCl_in ci h w hw) ?_
  obtain ⟨k, -, rfl⟩ := List.mem_map.mp hw
  unfold u_lay
  split <;> rfl
section MStep
variable {p : Program} {l : Launch} {e : Env} {R : Room} {s : State} {m : MethodId} {args : Array Value} {below : List Frame} {meth : Method} {c : Code} {Q : State → Prop} {D : va_G} {AC EC : Nat → ClassId} {b z0 : Nat} {H0 : Heap} {mt m0 s0 : Nat}
def mNx (p : Program) (l : Launch) (e : Env) (R : Room) (s : State) (m : MethodId) (args : Array Value) (below : List Frame) (meth : Method) (c : Code) (Q : State → Prop) (D : va_G) (AC EC : Nat → ClassId) (b z0 : Nat) (H0 : Heap) (mt m0 s0 : Nat) (pc : Nat) (ls st : List Value) (M : mM) : Prop :=
  ∀ (H : Heap) (locs : List Loc) (lsA : Array Slot), mRel D AC EC b z0 H0 s M H → (∀ q ∈ locs, z0 ≤ q.base) → mLR b z0 (mMax mt) ls lsA →
    W p l e R s m args below meth c H locs (mLn M - m0) (mSl M - s0) Q (F0 m pc lsA (st.map (mUp b z0)))
variable {pc : Nat} {ls st : List Value} {M : mM} {H : Heap}
theorem mKd_lt {a : Nat} {k : Nat} (h : (mKd M a).1 = k) (hk : k ≠ 99) : a < mLn M ∧ mKd M a = mK M a := by
  unfold mKd at h ⊢
  by_cases q : a < mLn M
  · exact ⟨q, if_pos q⟩
  · rw [if_neg q] at h
    exact absurd h.symm hk
theorem mCell_at {a k : Nat} (hR : mRel D AC EC b z0 H0 s M H) (h : (mKd M a).1 = k) (hk : k ≠ 99) (hk2 : k ≠ 13) : 1 ≤ a ∧ a < mLn M ∧ (mK M a).1 = k ∧ (mK M a).2 = (mKd M a).2 ∧ mCell D AC EC b z0 (mK M a) (mi M a) (ml M a) (mr M a) (mAd b z0 a) H := by
  obtain ⟨h1, h2⟩ := mKd_lt h hk
  rw [h2] at h ⊢
  have h3 : 1 ≤ a := by
    rcases Nat.eq_zero_or_pos a with q | q
    · subst q
      exact absurd (h.symm.trans hR.2.2.1.1) hk2
    · exact q
  exact ⟨h3, h1, h, rfl, hR.2.2.2.2.1 a h3 h1⟩
theorem mCell_ob {a ci : Nat} (hR : mRel D AC EC b z0 H0 s M H) (h : (mKd M a).1 = ci) (hci : ci < 7) : 1 ≤ a ∧ a < mLn M ∧ (mK M a).1 = ci ∧ t_OB (mAd b z0 a) (D.1 ci) (mSz ci) (D.2 ci) H (fun j => mVal b z0 (mTyOf ci j) (mi M a j) (ml M a j) (mr M a j)) := by
  obtain ⟨h1, h2, h3, -, h5⟩ := mCell_at hR h (by omega) (by omega)
  unfold mCell at h5
  rw [h3, if_neg (by omega), if_neg (by omega), if_neg (by omega), if_pos hci] at h5
  exact ⟨h1, h2, h3, h5⟩
theorem mCell_i {a : Nat} (hR : mRel D AC EC b z0 H0 s M H) (h : (mKd M a).1 = 10) : 1 ≤ a ∧ a < mLn M ∧ (mK M a).1 = 10 ∧ H[mAd b z0 a]? = some (arrV (AC 0) (mKd M a).2 (fun j => .int (mi M a j))) := by
  obtain ⟨h1, h2, h3, h4, h5⟩ := mCell_at hR h (by decide) (by decide)
  unfold mCell at h5
  rw [if_pos h3, h4] at h5
  exact ⟨h1, h2, h3, h5⟩
theorem mCell_l {a : Nat} (hR : mRel D AC EC b z0 H0 s M H) (h : (mKd M a).1 = 11) : 1 ≤ a ∧ a < mLn M ∧ (mK M a).1 = 11 ∧ H[mAd b z0 a]? = some (arrV (AC 1) (mKd M a).2 (fun j => .long (ml M a j))) := by
  obtain ⟨h1, h2, h3, h4, h5⟩ := mCell_at hR h (by decide) (by decide)
  unfold mCell at h5
  rw [h3, if_neg (by decide), if_pos rfl, h4] at h5
  exact ⟨h1, h2, h3, h5⟩
theorem mCell_z {a : Nat} (hR : mRel D AC EC b z0 H0 s M H) (h : (mKd M a).1 = 12) : 1 ≤ a ∧ a < mLn M ∧ (mK M a).1 = 12 ∧ H[mAd b z0 a]? = some (arrV (AC 2) (mKd M a).2 (fun j => .int (mi M a j))) := by
  obtain ⟨h1, h2, h3, h4, h5⟩ := mCell_at hR h (by decide) (by decide)
  unfold mCell at h5
  rw [h3, if_neg (by decide), if_neg (by decide), if_pos rfl, h4] at h5
  exact ⟨h1, h2, h3, h5⟩
theorem mX_at {a : Nat} (hR : mRel D AC EC b z0 H0 s M H) (h : (mKd M a).1 = 13) : a = 0 ∧ (mKd M a).2 = (mK M 0).2 ∧ va_X b (mKd M a).2 (mi M a) s H := by
  obtain ⟨h1, h2⟩ := mKd_lt h (by decide)
  have h3 : a = 0 := by
    rcases Nat.eq_zero_or_pos a with q | q
    · exact q
    · have h5 := hR.2.2.2.2.1 a q h1
      unfold mCell at h5
      rw [h2] at h
      rw [h, if_neg (by decide), if_neg (by decide), if_neg (by decide), if_neg (by decide), if_pos rfl] at h5
      exact h5.elim
  subst h3
  rw [h2]
  exact ⟨rfl, rfl, hR.2.2.1.2.2⟩
theorem sd_getf {ix ci sl a : Nat} {v : Value} (F : mFr p s m args meth c mt) (K : mKnow D AC EC s) (hd : decode (mCode mt) pc = .ok (.getfield ix, 3)) (hci : ci < 7) (hsl : sl < mSz ci) (hlink : mFP (mOwn mt, ix, ci, sl)) (hg : mGetf ci sl (mTag (mTyOf ci sl)) M a = some v)
    (k : mNx p l e R s m args below meth c Q D AC EC b z0 H0 mt m0 s0 (pc + 3) ls (v :: st) M) : mNx p l e R s m args below meth c Q D AC EC b z0 H0 mt m0 s0 pc ls (.ref a :: st) M := by
  intro H locs lsA hR hL hl
  obtain ⟨hx, hb, -, -, hown, hts, -⟩ := F
  unfold mGetf at hg
  have h0 : (mKd M a).1 = ci := by
    by_cases h0 : (mKd M a).1 = ci
    · exact h0
    · rw [if_neg h0] at hg; cases hg
  rw [if_pos h0] at hg
  obtain ⟨-, -, -, cell, q1, q2, q3, q4⟩ := mCell_ob hR h0 hci
  have hin := mLay_in hci
  obtain ⟨hS, hfc, kC, hkC, hkind⟩ := K.1.1 ci _ (mCl_at ci hci)
  obtain ⟨cf, kf, fi, f, hi, hslot⟩ := hS sl hsl
  refine W.getf hx hb hown (hts _ (mWs_mem hlink rfl)) hi (u_facts hfc hkC (u_lays hts hin hsl) hi).1 q1 (by rw [q3]; exact fun h => by cases h) (v := mUp b z0 v) ?_ rfl rfl hd (k H locs lsA hR hL hl)
  rw [hslot, q4 sl hsl]
  congr 1
  show mVal b z0 (mTyOf ci sl) (mi M a sl) (ml M a sl) (mr M a sl) = mUp b z0 v
  unfold mVal
  generalize mTag (mTyOf ci sl) = t at hg ⊢
  match t, hg with
  | 0, hg => cases hg; rfl
  | 1, hg => cases hg; rfl
  | n + 2, hg => cases hg; rfl
theorem sd_put {ix ci sl a : Nat} {v : Value} {M2 : mM} (F : mFr p s m args meth c mt) (K : mKnow D AC EC s) (hd : decode (mCode mt) pc = .ok (.putfield ix, 3)) (hci : ci < 7) (hsl : sl < mSz ci) (hlink : mFP (mOwn mt, ix, ci, sl))
    (hfin : (mTOf ci sl).2.2.2 = false ∨ ((mY mt).name = "<init>" ∧ mOwn mt = ci)) (h0 : (mKd M a).1 = ci) (hn : narrow (mTyOf ci sl) (mUp b z0 v) = mUp b z0 v) (hfit : fits (mTyOf ci sl) (mUp b z0 v) = true)
    (e1 : mLn M2 = mLn M) (e1' : mSl M2 = mSl M) (e2 : mK M2 = mK M) (e3 : ∀ j, j ≠ a → mi M2 j = mi M j ∧ ml M2 j = ml M j ∧ mr M2 j = mr M j) (e4 : ∀ j, mVal b z0 (mTyOf ci j) (mi M2 a j) (ml M2 a j) (mr M2 a j) = updV (fun j => mVal b z0 (mTyOf ci j) (mi M a j) (ml M a j) (mr M a j)) sl (mUp b z0 v) j)
    (k : mNx p l e R s m args below meth c Q D AC EC b z0 H0 mt m0 s0 (pc + 3) ls st M2) : mNx p l e R s m args below meth c Q D AC EC b z0 H0 mt m0 s0 pc ls (v :: .ref a :: st) M := by
  intro H locs lsA hR hL hl
  obtain ⟨hx, hb, -, -, hown, hts, -, hnm, -⟩ := F
  obtain ⟨ha1, ha2, ha3, cell, q1, q2, q3, q4⟩ := mCell_ob hR h0 hci
  have hin := mLay_in hci
  have hap := va_apart (own := mOwnN (mOwn mt)) hts hin (mTyOf ci) (mCl_ty ci hci) (mCl_nm ci hci) K.1 (mCl_at ci hci)
  obtain ⟨hS, hfc, kC, hkC, hkind⟩ := K.1.1 ci _ (mCl_at ci hci)
  obtain ⟨cf, kf, fi, f, hi, hslot⟩ := hS sl hsl
  have hst := (u_facts hfc hkC (u_lays hts hin hsl) hi).1
  have hlay := hts _ (hin _ (u_in_lay hsl))
  have hgo : ∀ (H' : Heap), H'[mAd b z0 a]? = some (cell.setSlot f.slot (mUp b z0 v)) → H'.size = H.size → (∀ q, q ≠ mAd b z0 a → H'[q]? = H[q]?) → W p l e R s m args below meth c H' (locs ++ [⟨mAd b z0 a, f.slot⟩]) (mLn M - m0) (mSl M - s0) Q (F0 m (pc + 3) lsA (st.map (mUp b z0))) := by
    intro H' g1 g2 g3
    rw [← e1, ← e1']
    refine k H' _ lsA (hR.set ha1 ha2 e1 e2 e3 ?_ g2 g3) ?_ hl
    · unfold mCell
      rw [ha3, if_neg (by omega), if_neg (by omega), if_neg (by omega), if_pos hci]
      rw [hslot] at g1
      exact t_OB.to (V := updV (fun j => mVal b z0 (mTyOf ci j) (mi M a j) (ml M a j) (mr M a j)) sl (mUp b z0 v)) ⟨_, g1, q2, q3, t_set q4 hap hsl _⟩ (fun j _ => (e4 j).symm)
    · intro q hq
      rcases List.mem_append.mp hq with h | h
      · exact hL q h
      · rw [List.mem_singleton] at h
        subst h
        show z0 ≤ mAd b z0 a
        rw [mAd_pos ha1]
        omega
  cases hf : (mTOf ci sl).2.2.2 with
  | false =>
    unfold u_lay at hlay
    rw [if_neg (by rw [hf]; decide)] at hlay
    have h6 := u_store hfc hkC hkind hlay hi (mCl_ty ci hci sl hsl) hn hfit
    exact W.putK hx hb (f := f) ⟨hown, hts _ (mWs_mem hlink rfl), ⟨_, _, _, hi⟩, hst⟩ (by rw [q2]; exact h6) q1 q3 (by rw [hslot]; exact k2_hasslot (q4 sl hsl)) rfl rfl hd hgo
  | true =>
    unfold u_lay at hlay
    rw [if_pos hf] at hlay
    rcases hfin with h | ⟨hi1, hi2⟩
    · rw [hf] at h; cases h
    have hdecl : (mTOf ci sl).1 = mNm ci := by
      have : (List.range 7).all (fun ci => (List.range (mSz ci)).all (fun k => decide ((mTOf ci k).1 = mNm ci))) = true := by decide +kernel
      have := List.all_eq_true.mp (List.all_eq_true.mp this ci (List.mem_range.mpr hci)) sl (List.mem_range.mpr hsl)
      exact of_decide_eq_true this
    have hcf : m.cls = cf := by
      obtain ⟨_, _, c', _, _, _, -, -, hf', -, -, -, hown2, -⟩ := Cond.laysFinal_spec hlay
      have e1 : c' = cf := by have := hi.symm.trans hf'; simp at this; exact this.1.symm
      rw [hdecl] at hown2
      rw [hi2] at hown
      rw [← e1]; exact Option.some.inj (hown.symm.trans hown2)
    have h6 := u_fits hfc hkC hkind (Or.inr hlay) hi (mCl_ty ci hci sl hsl) hn hfit
    exact W.putFinK hx hb hown (hts _ (mWs_mem hlink rfl)) hi hst hcf (by rw [hnm]; exact hi1) (by rw [q2]; exact h6) q1 q3 (by rw [hslot]; exact k2_hasslot (q4 sl hsl)) rfl rfl hd hgo
end MStep
