/-! arrays, new cells -/
def mTyB (ty : FieldType) : Bool := match ty with
  | .int | .long | .array _ | .object _ => true
  | _ => false
theorem mTyB_all : ∀ ci, ci < 7 → ∀ j, j < mSz ci → mTyB (mTyOf ci j) = true := by
  intro ci hci j hj
  have : (List.range 7).all (fun ci => (List.range (mSz ci)).all (fun k => mTyB (mTyOf ci k))) = true := by decide +kernel
  exact List.all_eq_true.mp (List.all_eq_true.mp this ci (List.mem_range.mpr hci)) j (List.mem_range.mpr hj)
theorem mTy_def {b z0 : Nat} {ty : FieldType} (h : mTyB ty = true) : defaultValue ty = mVal b z0 ty 0 0 none := by
  cases ty <;> first | rfl | (simp [mTyB] at h)
theorem mL_app {z0 a i : Nat} {locs : List Loc} (hL : ∀ q ∈ locs, z0 ≤ q.base) (ha : z0 ≤ a) : ∀ q ∈ locs ++ [⟨a, i⟩], z0 ≤ q.base := by
  intro q hq
  rcases List.mem_append.mp hq with h | h
  · exact hL q h
  · rw [List.mem_singleton] at h
    subst h
    exact ha
section MStep2
variable {p : Program} {l : Launch} {e : Env} {R : Room} {s : State} {m : MethodId} {args : Array Value} {below : List Frame} {meth : Method} {c : Code} {Q : State → Prop} {D : va_G} {AC EC : Nat → ClassId} {b z0 : Nat} {H0 : Heap} {mt m0 s0 : Nat}
variable {pc : Nat} {ls st : List Value} {M : mM} {a : Nat} {i : Int32}
theorem sd_iald (F : mFr p s m args meth c mt) (K : mKnow D AC EC s) (hd : decode (mCode mt) pc = .ok (.iaload, 1)) (h0 : (mKd M a).1 = 10 ∨ (mKd M a).1 = 13) (hin : ¬ (i < 0 ∨ (mKd M a).2 ≤ i.toNatClampNeg))
    (k : mNx p l e R s m args below meth c Q D AC EC b z0 H0 mt m0 s0 (pc + 1) ls (.int (mi M a i.toNatClampNeg) :: st) M) : mNx p l e R s m args below meth c Q D AC EC b z0 H0 mt m0 s0 pc ls (.int i :: .ref a :: st) M := by
  intro H locs lsA hR hL hl
  obtain ⟨hx, hb, -⟩ := F
  have hlt : i.toNatClampNeg < (mKd M a).2 := Nat.not_le.mp fun q => hin (Or.inr q)
  rcases h0 with h0 | h0
  · obtain ⟨-, -, -, hc⟩ := mCell_i hR h0
    exact W.iald (v := .int (mi M a i.toNatClampNeg)) hx hb hc ((K.1.2 0 _ rfl).1 _ _) (fun q => by cases q) (by rw [arrV_size]; exact hin) (by rw [arrV_read _ _ hlt]) rfl rfl hd (k H locs lsA hR hL hl)
  · obtain ⟨rfl, -, scr, h1, h2, h3, h4, h5⟩ := mX_at hR h0
    exact W.iald (v := .int (mi M 0 i.toNatClampNeg)) hx hb (a := mAd b z0 0) h1 h2 h3 (by rw [h4]; exact hin) (h5 _ hlt) rfl rfl hd (k H locs lsA hR hL hl)
theorem sd_lald (F : mFr p s m args meth c mt) (K : mKnow D AC EC s) (hd : decode (mCode mt) pc = .ok (.laload, 1)) (h0 : (mKd M a).1 = 11) (hin : ¬ (i < 0 ∨ (mKd M a).2 ≤ i.toNatClampNeg))
    (k : mNx p l e R s m args below meth c Q D AC EC b z0 H0 mt m0 s0 (pc + 1) ls (.long (ml M a i.toNatClampNeg) :: st) M) : mNx p l e R s m args below meth c Q D AC EC b z0 H0 mt m0 s0 pc ls (.int i :: .ref a :: st) M := by
  intro H locs lsA hR hL hl
  obtain ⟨hx, hb, -⟩ := F
  have hlt : i.toNatClampNeg < (mKd M a).2 := Nat.not_le.mp fun q => hin (Or.inr q)
  obtain ⟨-, -, -, hc⟩ := mCell_l hR h0
  exact W.lald (v := .long (ml M a i.toNatClampNeg)) hx hb hc ((K.1.2 1 _ rfl).1 _ _) (fun q => by cases q) (by rw [arrV_size]; exact hin) (by rw [arrV_read _ _ hlt]) rfl rfl hd (k H locs lsA hR hL hl)
theorem sd_bald (F : mFr p s m args meth c mt) (K : mKnow D AC EC s) (hd : decode (mCode mt) pc = .ok (.baload, 1)) (h0 : (mKd M a).1 = 12) (hin : ¬ (i < 0 ∨ (mKd M a).2 ≤ i.toNatClampNeg))
    (k : mNx p l e R s m args below meth c Q D AC EC b z0 H0 mt m0 s0 (pc + 1) ls (.int (mi M a i.toNatClampNeg) :: st) M) : mNx p l e R s m args below meth c Q D AC EC b z0 H0 mt m0 s0 pc ls (.int i :: .ref a :: st) M := by
  intro H locs lsA hR hL hl
  obtain ⟨hx, hb, -⟩ := F
  have hlt : i.toNatClampNeg < (mKd M a).2 := Nat.not_le.mp fun q => hin (Or.inr q)
  obtain ⟨-, -, -, hc⟩ := mCell_z hR h0
  exact W.zald (v := .int (mi M a i.toNatClampNeg)) hx hb hc ((K.1.2 2 _ rfl).1 _ _) (fun q => by cases q) (by rw [arrV_size]; exact hin) (by rw [arrV_read _ _ hlt]) rfl rfl hd (k H locs lsA hR hL hl)
theorem mU_ne {α : Type} {f : Nat → α} {k j : Nat} {v : α} (h : j ≠ k) : va_up f k v j = f j := by simp [va_up, h]
theorem mU_eq {α : Type} {f : Nat → α} {k : Nat} {v : α} : va_up f k v k = v := by simp [va_up]
theorem updV_i (f : Nat → Int32) (j : Nat) (x : Int32) : updV (fun q => Value.int (f q)) j (.int x) = fun q => Value.int (va_up f j x q) := by
  funext q
  by_cases h : q = j <;> simp [updV, va_up, h]
theorem updV_l (f : Nat → Int64) (j : Nat) (x : Int64) : updV (fun q => Value.long (f q)) j (.long x) = fun q => Value.long (va_up f j x q) := by
  funext q
  by_cases h : q = j <;> simp [updV, va_up, h]
theorem sd_iast {x : Int32} (F : mFr p s m args meth c mt) (K : mKnow D AC EC s) (hd : decode (mCode mt) pc = .ok (.iastore, 1)) (h0 : (mKd M a).1 = 10) (hin : ¬ (i < 0 ∨ (mKd M a).2 ≤ i.toNatClampNeg))
    (k : mNx p l e R s m args below meth c Q D AC EC b z0 H0 mt m0 s0 (pc + 1) ls st (wI M a (va_up (mi M a) i.toNatClampNeg x))) : mNx p l e R s m args below meth c Q D AC EC b z0 H0 mt m0 s0 pc ls (.int x :: .int i :: .ref a :: st) M := by
  intro H locs lsA hR hL hl
  obtain ⟨hx, hb, -⟩ := F
  obtain ⟨h1, h2, h3, hc⟩ := mCell_i hR h0
  have hkd : mKd M a = mK M a := (mKd_lt h0 (by decide)).2
  refine W.iast hx hb hc ((K.1.2 0 _ rfl).1 _ _) (fun q => by cases q) (by rw [arrV_size]; exact hin) rfl rfl hd fun H' e1 e2 e3 => ?_
  refine k H' _ lsA (hR.set h1 h2 rfl rfl (fun j hj => ⟨mU_ne hj, rfl, rfl⟩) ?_ e2 e3) (mL_app hL (by rw [mAd_pos h1]; omega)) hl
  unfold mCell
  rw [if_pos h3, e1, arrV_store, updV_i, hkd]
  show some _ = some _
  congr 3
  funext j
  show _ = Value.int (va_up (mi M) a _ a j)
  rw [mU_eq]
theorem sd_last {x : Int64} (F : mFr p s m args meth c mt) (K : mKnow D AC EC s) (hd : decode (mCode mt) pc = .ok (.lastore, 1)) (h0 : (mKd M a).1 = 11) (hin : ¬ (i < 0 ∨ (mKd M a).2 ≤ i.toNatClampNeg))
    (k : mNx p l e R s m args below meth c Q D AC EC b z0 H0 mt m0 s0 (pc + 1) ls st (wL M a (va_up (ml M a) i.toNatClampNeg x))) : mNx p l e R s m args below meth c Q D AC EC b z0 H0 mt m0 s0 pc ls (.long x :: .int i :: .ref a :: st) M := by
  intro H locs lsA hR hL hl
  obtain ⟨hx, hb, -⟩ := F
  obtain ⟨h1, h2, h3, hc⟩ := mCell_l hR h0
  have hkd : mKd M a = mK M a := (mKd_lt h0 (by decide)).2
  refine W.last hx hb hc ((K.1.2 1 _ rfl).1 _ _) (fun q => by cases q) (by rw [arrV_size]; exact hin) rfl rfl hd fun H' e1 e2 e3 => ?_
  refine k H' _ lsA (hR.set h1 h2 rfl rfl (fun j hj => ⟨rfl, mU_ne hj, rfl⟩) ?_ e2 e3) (mL_app hL (by rw [mAd_pos h1]; omega)) hl
  unfold mCell
  rw [h3, if_neg (by decide), if_pos rfl, e1, arrV_store, updV_l, hkd]
  show some _ = some _
  congr 3
  funext j
  show _ = Value.long (va_up (ml M) a _ a j)
  rw [mU_eq]
theorem nar_z {x : Int32} (h : x = 0 ∨ x = 1) : narrow .boolean (.int x) = .int x := by
  rcases h with rfl | rfl <;> rfl
theorem sd_bast {x : Int32} (F : mFr p s m args meth c mt) (K : mKnow D AC EC s) (hd : decode (mCode mt) pc = .ok (.bastore, 1)) (h0 : (mKd M a).1 = 12) (hin : ¬ (i < 0 ∨ (mKd M a).2 ≤ i.toNatClampNeg)) (hx1 : x = 0 ∨ x = 1)
    (k : mNx p l e R s m args below meth c Q D AC EC b z0 H0 mt m0 s0 (pc + 1) ls st (wI M a (va_up (mi M a) i.toNatClampNeg x))) : mNx p l e R s m args below meth c Q D AC EC b z0 H0 mt m0 s0 pc ls (.int x :: .int i :: .ref a :: st) M := by
  intro H locs lsA hR hL hl
  obtain ⟨hx, hb, -⟩ := F
  obtain ⟨h1, h2, h3, hc⟩ := mCell_z hR h0
  have hkd : mKd M a = mK M a := (mKd_lt h0 (by decide)).2
  refine W.zast hx hb hc ((K.1.2 2 _ rfl).1 _ _) (fun q => by cases q) (by rw [arrV_size]; exact hin) rfl rfl hd fun H' e1 e2 e3 => ?_
  refine k H' _ lsA (hR.set h1 h2 rfl rfl (fun j hj => ⟨mU_ne hj, rfl, rfl⟩) ?_ e2 e3) (mL_app hL (by rw [mAd_pos h1]; omega)) hl
  unfold mCell
  rw [h3, if_neg (by decide), if_neg (by decide), if_pos rfl, e1, nar_z hx1, arrV_store, updV_i, hkd]
  show some _ = some _
  congr 3
  funext j
  show _ = Value.int (va_up (mi M) a _ a j)
  rw [mU_eq]
theorem sd_alen (F : mFr p s m args meth c mt) (K : mKnow D AC EC s) (hd : decode (mCode mt) pc = .ok (.arraylength, 1)) (h0 : (mKd M a).1 = 10 ∨ (mKd M a).1 = 13)
    (k : mNx p l e R s m args below meth c Q D AC EC b z0 H0 mt m0 s0 (pc + 1) ls (.int (nI (mKd M a).2) :: st) M) : mNx p l e R s m args below meth c Q D AC EC b z0 H0 mt m0 s0 pc ls (.ref a :: st) M := by
  intro H locs lsA hR hL hl
  obtain ⟨hx, hb, -⟩ := F
  rcases h0 with h0 | h0
  · obtain ⟨-, -, -, hc⟩ := mCell_i hR h0
    exact W.alen (n := nI (mKd M a).2) hx hb hc ((K.1.2 0 _ rfl).1 _ _) (by rw [arrV_size]; rfl) rfl rfl hd (k H locs lsA hR hL hl)
  · obtain ⟨rfl, -, scr, h1, h2, h3, h4, h5⟩ := mX_at hR h0
    exact W.alen (n := nI (mKd M 0).2) hx hb (a := mAd b z0 0) h1 h2 (by rw [h4]; rfl) rfl rfl hd (k H locs lsA hR hL hl)
theorem sd_newa {ty : ArrayType} {kd : Nat} {n : Int32} (F : mFr p s m args meth c mt) (K : mKnow D AC EC s) (hd : decode (mCode mt) pc = .ok (.newarray ty, 2)) (hk : (ty = .int ∧ kd = 10) ∨ (ty = .long ∧ kd = 11) ∨ (ty = .boolean ∧ kd = 12)) (hn : ¬ n < 0) (hn2 : n.toNatClampNeg ≤ 65536)
    (hm0 : m0 ≤ mLn M) (hs0 : s0 ≤ mSl M) (hrc : mLn M + 1 - m0 ≤ R.cells) (hrs : mSl M + n.toNatClampNeg - s0 ≤ R.slots)
    (k : mNx p l e R s m args below meth c Q D AC EC b z0 H0 mt m0 s0 (pc + 2) ls (.ref (mLn M) :: st) (mNew M kd n.toNatClampNeg)) : mNx p l e R s m args below meth c Q D AC EC b z0 H0 mt m0 s0 pc ls (.int n :: st) M := by
  intro H locs lsA hR hL hl
  obtain ⟨hx, hb, -, -, hown, hts, -⟩ := F
  have hcell : (mLn M - m0) + 1 ≤ R.cells := by omega
  have hslot : (mSl M - s0) + n.toNatClampNeg ≤ R.slots := by omega
  have e1 : mLn (mNew M kd n.toNatClampNeg) - m0 = (mLn M - m0) + 1 := by show mLn M + 1 - m0 = _; omega
  have e2 : mSl (mNew M kd n.toNatClampNeg) - s0 = (mSl M - s0) + n.toNatClampNeg := by show mSl M + n.toNatClampNeg - s0 = _; omega
  have hsz : H.size = mAd b z0 (mLn M) := by rw [mAd_pos hR.1]; exact hR.2.1
  have harr : (Cond.arrayClass (newarray.typeOf ty)).before args s = true := by
    rcases hk with ⟨rfl, -⟩ | ⟨rfl, -⟩ | ⟨rfl, -⟩
    · exact hts _ (mWs_mem mArr.1 rfl)
    · exact hts _ (mWs_mem mArr.2.1 rfl)
    · exact hts _ (mWs_mem mArr.2.2 rfl)
  have hby : n.toNatClampNeg * componentBytes (newarray.typeOf ty) ≤ 536870912 := by
    rcases hk with ⟨rfl, -⟩ | ⟨rfl, -⟩ | ⟨rfl, -⟩
    · have : componentBytes (newarray.typeOf .int) = 4 := rfl
      rw [this]; omega
    · have : componentBytes (newarray.typeOf .long) = 8 := rfl
      rw [this]; omega
    · have : componentBytes (newarray.typeOf .boolean) = 1 := rfl
      rw [this]; omega
  refine va_newaK hx hb harr (g := F0 m pc lsA (.int n :: st.map (mUp b z0))) rfl hd rfl hn rfl hby hcell hslot hsz fun H' cA g1 g2 g3 g4 g5 => ?_
  have hk2 := k H' locs lsA (hR.push (kd := kd) (n := n.toNatClampNeg) ?_ (by rw [hsz]; exact g2) (fun q hq => g3 q (by rw [← hsz]; exact hq))) hL hl
  · rw [e1, e2] at hk2
    exact hk2
  · rw [hsz]
    unfold mCell
    rcases hk with ⟨rfl, rfl⟩ | ⟨rfl, rfl⟩ | ⟨rfl, rfl⟩
    · have : cA = AC 0 := Option.some.inj (g5.symm.trans (K.1.2 0 _ rfl).2)
      subst this
      exact g1
    · have : cA = AC 1 := Option.some.inj (g5.symm.trans (K.1.2 1 _ rfl).2)
      subst this
      exact g1
    · have : cA = AC 2 := Option.some.inj (g5.symm.trans (K.1.2 2 _ rfl).2)
      subst this
      exact g1
theorem sd_new {ix kd : Nat} (F : mFr p s m args meth c mt) (K : mKnow D AC EC s) (hd : decode (mCode mt) pc = .ok (.new ix, 3)) (hkd : kd < 7) (hlink : mCP (mOwn mt, ix, kd))
    (hm0 : m0 ≤ mLn M) (hs0 : s0 ≤ mSl M) (hrc : mLn M + 1 - m0 ≤ R.cells) (hrs : mSl M + mSz kd - s0 ≤ R.slots)
    (k : mNx p l e R s m args below meth c Q D AC EC b z0 H0 mt m0 s0 (pc + 3) ls (.ref (mLn M) :: st) (mNew M kd (mSz kd))) : mNx p l e R s m args below meth c Q D AC EC b z0 H0 mt m0 s0 pc ls st M := by
  intro H locs lsA hR hL hl
  obtain ⟨hx, hb, -, -, hown, hts, -⟩ := F
  have hcell : (mLn M - m0) + 1 ≤ R.cells := by omega
  have hslot : (mSl M - s0) + mSz kd ≤ R.slots := by omega
  have e1 : mLn (mNew M kd (mSz kd)) - m0 = (mLn M - m0) + 1 := by show mLn M + 1 - m0 = _; omega
  have e2 : mSl (mNew M kd (mSz kd)) - s0 = (mSl M - s0) + mSz kd := by show mSl M + mSz kd - s0 = _; omega
  have hsz : H.size = mAd b z0 (mLn M) := by rw [mAd_pos hR.1]; exact hR.2.1
  have hKn := K.1.1 kd _ (mCl_at kd hkd)
  refine W.newcK hx hb hown (hts _ (mWs_mem hlink.1 rfl)) (hts _ (mWs_mem hlink.2.1 rfl)) (hts _ (mWs_mem hlink.2.2 rfl)) (g := F0 m pc lsA (st.map (mUp b z0))) rfl hd hcell hslot hKn.2.1 hsz fun H' kC hkC g1 g2 g3 => ?_
  have hk2 := k H' locs lsA (hR.push (kd := kd) (n := mSz kd) ?_ (by rw [hsz]; exact g2) (fun q hq => g3 q (by rw [← hsz]; exact hq))) hL hl
  · rw [e1, e2] at hk2
    exact hk2
  · rw [hsz]
    unfold mCell
    simp only
    rw [if_neg (by omega), if_neg (by omega), if_neg (by omega), if_pos hkd]
    exact (u_born (mTyOf kd) hts (mLay_in hkd) hKn hkC g1 (mCl_ty kd hkd)).to (fun j hj => mTy_def (mTyB_all kd hkd j hj))
end MStep2
