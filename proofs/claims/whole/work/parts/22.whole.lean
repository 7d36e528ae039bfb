/-! a throw as a step; a run of the middle machine is a run of the real one -/
section MThrow2
variable {p : Program} {l : Launch} {e : Env} {R : Room} {s : State} {m : MethodId} {args : Array Value} {below : List Frame} {meth : Method} {c : Code} {Q : State → Prop} {D : va_G} {AC EC : Nat → ClassId} {b z0 : Nat} {H0 : Heap} {vm0 : Vm} {mt m0 s0 : Nat}
theorem m_throw {d pc ex : Nat} {r : Instr × Nat × Nat × Nat × Int} {ls st : List Value} {M Ms : mM} (F : mFr p s m args meth c mt) (K : mKnow D AC EC s) (hE : mExc EC vm0 s) (hB : mBase vm0 z0 H0) (htr : e.platform.stackTraces = false) (hsR : mRel D AC EC b z0 H0 s Ms s.heap) (hr : mIns mt pc = some r) (hs : mStep d mt r pc ls st M = some (.inr (.inr (.inr ex))))
    (hd6 : 6 ≤ d) (hm0 : m0 ≤ mLn M) (hs0 : s0 ≤ mSl M) (hrc : mLn M + 1 - m0 ≤ R.cells) (hrs : mSl M + 6 - s0 ≤ R.slots) (hfr : d ≤ R.frames) (hlo : d * 60 ≤ R.locals)
    (kt : 7 ≤ ex ∧ ex < 10 → ∀ (t : State) (locs' : List Loc), t.status = .running → Ended t below (.threw (mAd b z0 (mLn M))) → s.WarmedH t.vm → s.sameButNew ({ t with vm := s.vm } : State) locs' (mLn M + 1 - m0) (mSl M + 6 - s0) → (∀ q ∈ locs', z0 ≤ q.base) → mRel D AC EC b z0 H0 s (mNew M ex 6) t.heap → Q t) :
    mNx p l e R s m args below meth c Q D AC EC b z0 H0 mt m0 s0 pc ls st M := by
  obtain ⟨hmt, hok⟩ := mIns_ok hr
  obtain ⟨i, len, a1, a2, a3⟩ := r
  simp only [mOkB, Bool.and_eq_true, decide_eq_true_eq] at hok
  obtain ⟨hd, hok⟩ := hok
  cases i with
  | new ix =>
    simp only [Bool.and_eq_true, decide_eq_true_eq] at hok
    simp only [mStep] at hs
    split at hs
    · cases hs
    · rename_i hc
      split at hs
      · cases hs
        rw [if_neg hc] at hok
        simp only [Bool.and_eq_true, decide_eq_true_eq] at hok
        obtain ⟨rfl, h10, hany⟩ := hok
        obtain ⟨q, hq, hqq⟩ := List.any_eq_true.mp hany
        simp only [Bool.and_eq_true, decide_eq_true_eq] at hqq
        obtain ⟨⟨⟨⟨⟨⟨q1, q2⟩, q3⟩, d3⟩, d4⟩, d6⟩, d9⟩ := hqq
        have hx9 := mXT_ok q hq
        unfold mXP at hx9
        rw [q1, q2, q3] at hx9
        obtain ⟨w1, w2, w3, ⟨tx, w4⟩, w5⟩ := hx9
        have hex : 7 ≤ ex ∧ ex < 10 := ⟨by omega, h10⟩
        intro H locs lsA hR hL hl
        obtain ⟨hx, hb, hret, hml, hown, hts, hlocks, hnm, htab⟩ := F
        have hcell : (mLn M - m0) + 1 ≤ R.cells := by omega
        have hslot : (mSl M - s0) + 6 ≤ R.slots := by omega
        have hsz : H.size = mAd b z0 (mLn M) := by rw [mAd_pos hR.1]; exact hR.2.1
        have hfc := (hE.2 ex hex.1 hex.2).1
        refine W.newcK hx hb hown (hts _ (mWs_mem w1 rfl)) (hts _ (mWs_mem w2 rfl)) (hts _ (mWs_mem w3 rfl)) (g := F0 m pc lsA ([].map (mUp b z0))) rfl hd hcell hslot hfc hsz fun H' kC hkC g1 g2 g3 => ?_
        refine lv_dup hx hb d3 rfl ?_
        have hsr := hts _ (mWs_mem w4 rfl)
        obtain ⟨-, -, -, sa, -, -, -, -, -, hev⟩ := Cond.stringRef_spec (args := args) (first := s) (o := none) (idx := []) hown hsr
        refine va_ldcS hx hb hown (vk_R.of hsr hev) d4 ?_
        intro T hT X
        have hold : ∀ q, q < z0 → T.heap[q]? = s.heap[q]? := by
          intro q hq
          rw [hT, g3 q (by rw [← hsz]; have := hR.2.1; omega), hR.2.2.2.2.2 q hq, hsR.2.2.2.2.2 q hq]
        have hS : mStc args s := hB s args hE.1 (fun q hq => hsR.2.2.2.2.2 q hq)
        have hza : z0 ≤ mAd b z0 (mLn M) := by rw [mAd_pos hR.1]; omega
        have hhan : mHan mt = [] := by
          have : (List.range 153).all (fun y => decide (mOwn y ≠ 5) || decide (mHan y = [])) = true := by decide +kernel
          have := List.all_eq_true.mp this mt (List.mem_range.mpr hmt)
          simp only [Bool.or_eq_true, decide_eq_true_eq] at this
          refine this.resolve_left (fun z => z ?_)
          have h5 : ∀ q ∈ mXT, q.1 = 5 := by decide +kernel
          rw [← q1]
          exact h5 q hq
        obtain ⟨U, ce, L, hst, hrun, hend, hWm, hsame, hLb, hcv, hcc, hUh⟩ := m_ctor (EC := EC) (Ms := Ms) X hx htr hlocks hex hown (mXat_ok hex hts hS) hS (hts _ (mWs_mem w5 rfl)) hsR hold hza hfc hkC (by rw [hT]; exact g1) (msg := .ref sa) rfl
          (g := F0 m (pc + 3 + 1 + 2) lsA [.ref sa, .ref (mAd b z0 (mLn M)), .ref (mAd b z0 (mLn M))]) rfl (by rw [hml]; exact hl.2.1) rfl rfl rfl rfl (by rw [hb]; exact d6) (by rw [hb]; exact d9) (by rw [htab, hhan]; intro x hx; cases hx) (by omega) (by omega)
        refine ⟨U, hst, kt hex U (locs ++ L) hrun hend hWm (by
          have c1 : mLn M + 1 - m0 = (mLn M - m0) + 1 := by omega
          have c2 : mSl M + 6 - s0 = (mSl M - s0) + 6 := by omega
          rw [c1, c2]
          exact hsame) ?_ ?_⟩
        · intro q hq
          rcases List.mem_append.mp hq with h | h
          · exact hL q h
          · rw [hLb q h]; exact hza
        · rw [hUh, hT]
          refine hR.push (kd := ex) (n := 6) ?_ (by rw [Array.size_setIfInBounds, g2, hsz]) (fun q hq => ?_)
          · unfold mCell
            simp only
            rw [if_neg (by omega), if_neg (by omega), if_neg (by omega), if_neg (by omega), if_neg (by omega), hsz]
            exact ⟨ce, by rw [Array.getElem?_setIfInBounds_self_of_lt (by rw [g2]; omega)], hcv, hcc⟩
          · rw [Array.getElem?_setIfInBounds_ne (by rw [← hsz]; omega)]
            exact g3 q (by rw [← hsz]; exact hq)
      · cases hs
  | invokevirtual ix =>
    exfalso
    simp only [mStep, mInv] at hs
    repeat' (split at hs)
    all_goals cases hs
  | invokestatic ix =>
    exfalso
    simp only [mStep, mInv] at hs
    repeat' (split at hs)
    all_goals cases hs
  | invokespecial ix =>
    exfalso
    simp only [mStep, mInv, mGo] at hs
    repeat' (split at hs)
    all_goals cases hs
  | _ =>
    exfalso
    simp only [mStep, mGo] at hs
    repeat' (split at hs)
    all_goals first | (cases hs; done) | (simp at hs; done)
end MThrow2
