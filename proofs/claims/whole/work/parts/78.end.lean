/-! PAIRING through the law's own call; the end -/
theorem mP_VT2 {d mt pc ix y b n ex h : Nat} {z : Int} {ls st rest as : List Value} {M M2 : mM} {Q : (Option Value ⊕ Nat) → mM → Prop} (hr : mIns mt pc = some (.invokevirtual ix, 3, 0, y, z)) (ht : mTake (mPar y) [] st = some (as, .ref b :: rest)) (hk : mKd M b = (mOwn y, n)) (hcat : (decide (mCat rest ≤ 8) && decide ((mArgs as).length + 1 ≤ mMax y)) = true) (hR : mThr2 d y (.ref b :: as) M M2 ex) (hm : mCatch mt pc ex = some h) (k : mP (d + 1) mt h ls [.ref (mLn M2)] (mNew M2 ex 6) Q) : mP (d + 1) mt pc ls st M Q := by
  refine mP_call (y := y) (as := .ref b :: as) (rest := rest) hr (by simp only [Bool.and_eq_true, decide_eq_true_eq] at hcat; simp only [mStep, mInv, ht, hk]; simp [hcat]) (mP_mono hR ?_)
  rintro o M' ⟨rfl, rfl⟩
  refine ⟨h, hm, ?_⟩
  exact k
theorem g_pair : g_pairOK := by
  intro L k xs M h
  have h' := h
  obtain ⟨hc, hw, ht, hb, hp, hk⟩ := h
  have hO := hc.1
  have k1 : mKd M 1 = (5, 5) := hO.k 1
  obtain ⟨p, R, g, Lc, op, co, md, hS, hL, hC, hM⟩ := id hp
  have hR := hS.2.2.1
  by_cases c1 : nIn p g < 2 ∨ ¬ (0 < R → allBk op md p (R - 1))
  · have hN := h'.new 8
    obtain ⟨hc, hw, ht, hb, hp, hk⟩ := hN
    have e := fun a (ha : a < 48) => new_i hO 8 6 a ha
    have e28 : mi (mNew M 8 6) 28 = mi M 28 := e 28 (by decide)
    have hM2 : pM p R g Lc op co md (mNew M 8 6) := hM.of (by rw [e28]) (by rw [e28]) (e 36 (by decide)) (e 37 (by decide)) (e 38 (by decide)) (e 39 (by decide)) (e 40 (by decide))
    have f := thr_fr (mNew M 8 6) (iI 1)
    refine ⟨iI 1, iI 0, mNew M 8 6, thr (mNew M 8 6) (iI 1), ?_, sp_mpair1 (d := 95) (new_ok hO 8 6) hS hM2 c1, rfl, fun q => absurd q (by decide), hc, hc.fr f, InvC.of hw (f.gi 2) (f.gi 3) (f.gi 4) (f.g28 3) (f.gi 29) (f.gi 30), InvC.of ht (f.gi 5) (f.gi 6) (f.gi 7) (f.g28 6) (f.gi 31) (f.gi 32), hb.of (f.gi 8) (f.gi 9) (f.gi 10) (f.gi 11) (f.gi 33) (f.gi 34) (f.g28 7) (f.g28 8), hp.of (f.gi 12) (f.gl 12) (f.gi 13) (f.gi 14) (f.gi 15) (f.gi 16) (f.gi 17) (f.gi 18) (f.g28 12) (f.g28 13) (f.gi 36) (f.gi 37) (f.gi 38) (f.gi 39) (f.gi 40), hk.of (f.gi 25) (f.gi 26) (f.gi 27) (f.g28 23) (f.g28 24) (f.gi 45) (f.gi 46)⟩
    show mP (98 + 1) mLaw_pair 0 [.ref 1, .ref 47, .retAddr 0] [] M _
    (repeat (first | refine mP_go rfl rfl ?_ | ((show mP _ _ _ _ (Value.ref _ :: _) _ _); first | refine mP_getIv rfl (by assumption) (by assumption) ?_ | refine mP_getI rfl (by assumption) ?_ | refine mP_getR rfl (by assumption) (by assumption) ?_ | refine mP_getLv rfl (by assumption) (by assumption) ?_ | refine mP_getL rfl (by assumption) ?_) | ((show mP _ _ _ _ (_ :: Value.ref _ :: _) _ _); first | refine mP_putI rfl (by assumption) ?_ | refine mP_putL rfl (by assumption) ?_)); (try dsimp only))
    refine mP_VT2 rfl rfl k1 rfl (sp_pair1 (d := 92) hO hS hC c1) (h := 11) (by decide) ?_
    (repeat (first | refine mP_go rfl rfl ?_ | ((show mP _ _ _ _ (Value.ref _ :: _) _ _); first | refine mP_getIv rfl (by assumption) (by assumption) ?_ | refine mP_getI rfl (by assumption) ?_ | refine mP_getR rfl (by assumption) (by assumption) ?_ | refine mP_getLv rfl (by assumption) (by assumption) ?_ | refine mP_getL rfl (by assumption) ?_) | ((show mP _ _ _ _ (_ :: Value.ref _ :: _) _ _); first | refine mP_putI rfl (by assumption) ?_ | refine mP_putL rfl (by assumption) ?_)); (try dsimp only))
    exact mP_ret rfl rfl ⟨rfl, rfl⟩
  · have hn : 2 ≤ nIn p g := by omega
    have hbk : 0 < R → allBk op md p (R - 1) := Classical.byContradiction (fun q => c1 (Or.inr q))
    -- what the search finds, and the memory it leaves
    have hF : ∃ M2, Fr [20, 21, 22, 23, 24] [] M M2 ∧ ((mR 97 mPaired_findPairing [.ref 12] M (some (.int (iI 0))) M2 ∧ LC (prP p R op co md) (T0P p g) < 0) ∨ (mR 97 mPaired_findPairing [.ref 12] M (some (.int (iI 1))) M2 ∧ R < 16 ∧ 0 ≤ LC (prP p R op co md) (T0P p g) ∧ ∃ m e, FE p g m e ∧ mi M2 20 4 = nI m ∧ (∀ i, i < m → mi M2 21 i = nI (e i)) ∧ ml M2 20 5 = lI (LC (prP p R op co md) (T0P p g)) ∧ ∀ i, i < m → ∃ j, j < m ∧ mi M2 22 i = nI j ∧ e j = MT (prP p R op co md) (T0P p g) (e i))) := by
      by_cases cR : R = 16
      · exact ⟨M, Fr.nil M, Or.inl ⟨sp_find16 hO hC.2.1 cR, full_no hS cR hn⟩⟩
      · obtain ⟨M2, hf, f2, hrest⟩ := sp_find (d := 75) hO hS hC (by omega)
        refine ⟨M2, f2, ?_⟩
        by_cases cL : 0 ≤ LC (prP p R op co md) (T0P p g)
        · rw [decide_eq_true cL] at hf
          exact Or.inr ⟨hf, by omega, cL, hrest cL⟩
        · rw [decide_eq_false cL] at hf
          exact Or.inl ⟨hf, by omega⟩
    obtain ⟨M2, f2, hF⟩ := hF
    have hO2 := f2.ok hO
    rcases hF with ⟨hf, hneg⟩ | ⟨hf, hR16, hL0, m, e, hFE, h4, h21, h5, h22⟩
    · -- none
      have hG2 : InvG L xs k M2 := by
        have f := f2
        exact ⟨hc.fr f2, InvC.of hw (f.gi 2) (f.gi 3) (f.gi 4) (f.g28 3) (f.gi 29) (f.gi 30), InvC.of ht (f.gi 5) (f.gi 6) (f.gi 7) (f.g28 6) (f.gi 31) (f.gi 32), hb.of (f.gi 8) (f.gi 9) (f.gi 10) (f.gi 11) (f.gi 33) (f.gi 34) (f.g28 7) (f.g28 8), hp.of (f.gi 12) (f.gl 12) (f.gi 13) (f.gi 14) (f.gi 15) (f.gi 16) (f.gi 17) (f.gi 18) (f.g28 12) (f.g28 13) (f.gi 36) (f.gi 37) (f.gi 38) (f.gi 39) (f.gi 40), hk.of (f.gi 25) (f.gi 26) (f.gi 27) (f.g28 23) (f.g28 24) (f.gi 45) (f.gi 46)⟩
      have hN := hG2.new 9
      have e := fun a (ha : a < 48) => new_i hO2 9 6 a ha
      have e28 : mi (mNew M2 9 6) 28 = mi M2 28 := e 28 (by decide)
      have hM2 : pM p R g Lc op co md M2 := hM.of (f2.g28 12) (f2.g28 13) (f2.gi 36) (f2.gi 37) (f2.gi 38) (f2.gi 39) (f2.gi 40)
      have hM3 : pM p R g Lc op co md (mNew M2 9 6) := hM2.of (by rw [e28]) (by rw [e28]) (e 36 (by decide)) (e 37 (by decide)) (e 38 (by decide)) (e 39 (by decide)) (e 40 (by decide))
      obtain ⟨M4, hE, f, g0⟩ := sp_mpair2 (d := 95) (new_ok hO2 9 6) hS hM3 hn hbk hneg
      obtain ⟨hc, hw, ht, hb, hp, hk⟩ := hN
      refine ⟨iI 2, iI 0, mNew M2 9 6, M4, ?_, hE, g0, fun q => absurd q (by decide), hc, hc.fr f, InvC.of hw (f.gi 2) (f.gi 3) (f.gi 4) (f.g28 3) (f.gi 29) (f.gi 30), InvC.of ht (f.gi 5) (f.gi 6) (f.gi 7) (f.g28 6) (f.gi 31) (f.gi 32), hb.of (f.gi 8) (f.gi 9) (f.gi 10) (f.gi 11) (f.gi 33) (f.gi 34) (f.g28 7) (f.g28 8), hp.of (f.gi 12) (f.gl 12) (f.gi 13) (f.gi 14) (f.gi 15) (f.gi 16) (f.gi 17) (f.gi 18) (f.g28 12) (f.g28 13) (f.gi 36) (f.gi 37) (f.gi 38) (f.gi 39) (f.gi 40), hk.of (f.gi 25) (f.gi 26) (f.gi 27) (f.g28 23) (f.g28 24) (f.gi 45) (f.gi 46)⟩
      show mP (98 + 1) mLaw_pair 0 [.ref 1, .ref 47, .retAddr 0] [] M _
      (repeat (first | refine mP_go rfl rfl ?_ | ((show mP _ _ _ _ (Value.ref _ :: _) _ _); first | refine mP_getIv rfl (by assumption) (by assumption) ?_ | refine mP_getI rfl (by assumption) ?_ | refine mP_getR rfl (by assumption) (by assumption) ?_ | refine mP_getLv rfl (by assumption) (by assumption) ?_ | refine mP_getL rfl (by assumption) ?_) | ((show mP _ _ _ _ (_ :: Value.ref _ :: _) _ _); first | refine mP_putI rfl (by assumption) ?_ | refine mP_putL rfl (by assumption) ?_)); (try dsimp only))
      refine mP_VT2 rfl rfl k1 rfl (sp_pair2 (d := 75) hO hO2 hS hC hn hbk hf) (h := 14) (by decide) ?_
      (repeat (first | refine mP_go rfl rfl ?_ | ((show mP _ _ _ _ (Value.ref _ :: _) _ _); first | refine mP_getIv rfl (by assumption) (by assumption) ?_ | refine mP_getI rfl (by assumption) ?_ | refine mP_getR rfl (by assumption) (by assumption) ?_ | refine mP_getLv rfl (by assumption) (by assumption) ?_ | refine mP_getL rfl (by assumption) ?_) | ((show mP _ _ _ _ (_ :: Value.ref _ :: _) _ _); first | refine mP_putI rfl (by assumption) ?_ | refine mP_putL rfl (by assumption) ?_)); (try dsimp only))
      exact mP_ret rfl rfl ⟨rfl, rfl⟩
    · -- a round
      obtain ⟨C, hC2⟩ := Int.eq_ofNat_of_zero_le hL0
      have hbd := LC_bd (prP_bd hS) (T := T0P p g) (TT_lt (aLL_lt hS.2.1))
      have hmt : mtOK p R (T0P p g) op co md (MT (prP p R op co md) (T0P p g)) := fun x hx => MT_pair (T0P p g) (TT_lt (aLL_lt hS.2.1)) hL0 x hx
      have hle : nIn p g ≤ p := cnB_k (inB p g) p
      rw [hC2] at h5
      obtain ⟨M3, ha, f3, hC3⟩ := sp_addRound (d := 94) (C := C) hO2 hS (hC.of (f2.gi 12) (f2.gl 12) (f2.gi 13) (f2.gi 14) (f2.gi 15) (f2.gi 16) (f2.gi 17) (f2.gi 18)) hR16 (by omega) hFE h4 h21 h5 h22 hmt
      have hpr := sp_pair3 (d := 75) hO hO2 hS hC hn hbk hf ha
      have f23 := f2.trans f3
      have f4 := Fr47 M3 (va_up (ml M3 47) 0 (nI (nIn p g / 2)).toInt64)
      have f234 := f23.trans f4
      have hO3 := f23.ok hO
      have hO4 := f234.ok hO
      have hM4 : pM p R g Lc op co md (wL M3 47 (va_up (ml M3 47) 0 (nI (nIn p g / 2)).toInt64)) := hM.of (f234.g28 12) (f234.g28 13) (f234.gi 36) (f234.gi 37) (f234.gi 38) (f234.gi 39) (f234.gi 40)
      obtain ⟨M5, hE, f5, g0, hM5⟩ := sp_mpair3 (d := 95) hO4 hS hM4 hR16 hn hbk hC2
      have f := f234.trans f5
      have f45 := f4.trans f5
      have hp2 : InvP M5 := ⟨p, R + 1, g, C, _, _, _, new_pS hS hR16 (by omega) hmt, by omega, hC3.of (f45.gi 12) (f45.gl 12) (f45.gi 13) (f45.gi 14) (f45.gi 15) (f45.gi 16) (f45.gi 17) (f45.gi 18), hM5⟩
      refine ⟨iI 0, _, wL M3 47 (va_up (ml M3 47) 0 (nI (nIn p g / 2)).toInt64), M5, ?_, hE, g0, fun _ => ?_, (hc.fr f234).up (by omega), (hc.fr f).up (by omega), InvC.of hw (f.gi 2) (f.gi 3) (f.gi 4) (f.g28 3) (f.gi 29) (f.gi 30), InvC.of ht (f.gi 5) (f.gi 6) (f.gi 7) (f.g28 6) (f.gi 31) (f.gi 32), hb.of (f.gi 8) (f.gi 9) (f.gi 10) (f.gi 11) (f.gi 33) (f.gi 34) (f.g28 7) (f.g28 8), hp2, hk.of (f.gi 25) (f.gi 26) (f.gi 27) (f.g28 23) (f.g28 24) (f.gi 45) (f.gi 46)⟩
      · have k473 : mKd M3 47 = (11, 1) := hO3.k 47
        show mP (98 + 1) mLaw_pair 0 [.ref 1, .ref 47, .retAddr 0] [] M _
        (repeat (first | refine mP_go rfl rfl ?_ | ((show mP _ _ _ _ (Value.ref _ :: _) _ _); first | refine mP_getIv rfl (by assumption) (by assumption) ?_ | refine mP_getI rfl (by assumption) ?_ | refine mP_getR rfl (by assumption) (by assumption) ?_ | refine mP_getLv rfl (by assumption) (by assumption) ?_ | refine mP_getL rfl (by assumption) ?_) | ((show mP _ _ _ _ (_ :: Value.ref _ :: _) _ _); first | refine mP_putI rfl (by assumption) ?_ | refine mP_putL rfl (by assumption) ?_)); (try dsimp only))
        refine mP_V rfl rfl (by assumption) rfl hpr ?_
        (repeat (first | refine mP_go rfl rfl ?_ | ((show mP _ _ _ _ (Value.ref _ :: _) _ _); first | refine mP_getIv rfl (by assumption) (by assumption) ?_ | refine mP_getI rfl (by assumption) ?_ | refine mP_getR rfl (by assumption) (by assumption) ?_ | refine mP_getLv rfl (by assumption) (by assumption) ?_ | refine mP_getL rfl (by assumption) ?_) | ((show mP _ _ _ _ (_ :: Value.ref _ :: _) _ _); first | refine mP_putI rfl (by assumption) ?_ | refine mP_putL rfl (by assumption) ?_)); (try dsimp only))
        refine mP_laS (j := 0) rfl k473 (by ((repeat' (first | with_reducible apply tt_rem | with_reducible apply tt_div | with_reducible apply tt_and1 | with_reducible apply tt_add | with_reducible apply tt_sub | with_reducible apply tt_mul | with_reducible apply tt_neg | with_reducible refine nI_toInt ?_ | with_reducible refine iI_toInt ?_ ?_ | with_reducible exact tz0 | with_reducible assumption | omega)); (fail_if_success (focus skip)))) (by omega) (by omega) (by decide) ?_
        (repeat (first | refine mP_go rfl rfl ?_ | ((show mP _ _ _ _ (Value.ref _ :: _) _ _); first | refine mP_getIv rfl (by assumption) (by assumption) ?_ | refine mP_getI rfl (by assumption) ?_ | refine mP_getR rfl (by assumption) (by assumption) ?_ | refine mP_getLv rfl (by assumption) (by assumption) ?_ | refine mP_getL rfl (by assumption) ?_) | ((show mP _ _ _ _ (_ :: Value.ref _ :: _) _ _); first | refine mP_putI rfl (by assumption) ?_ | refine mP_putL rfl (by assumption) ?_)); (try dsimp only))
        exact mP_ret rfl rfl ⟨rfl, rfl⟩
      · rw [f5.gl 47]
        rfl
theorem law_end {L : Nat} {xs : Nat → Int32} (hL : L ≤ 2048) : mP 100 mLaw_law 0 (mEntry mLaw_law [.ref 0]) [] (mM0 L xs) (fun o M' => o = .inl (some (.int 1)) ∧ mLn M' ≤ 601025 ∧ mSl M' ≤ 7293034) := law_all g_pair hL
