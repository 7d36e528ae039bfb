/-! wish, twins, drop: the class's and the model's, side by side -/
theorem cpAt_w {M : mM} (hO : mOK M) : cpAt M 2 3 4 := ⟨hO.k 2, hO.k 3, hO.k 4, hO.r 2 0 3, hO.r 2 1 4⟩
theorem cpAt_t {M : mM} (hO : mOK M) : cpAt M 5 6 7 := ⟨hO.k 5, hO.k 6, hO.k 7, hO.r 5 0 6, hO.r 5 1 7⟩
theorem sp_Bwish {d : Nat} {M M2 : mM} {x y : Int32} {b : Bool} (hO : mOK M) (h : mR d mCouples_join [.ref 2, .int x, .int y] M (some (.int (bI b))) M2) : mR (d + 1) mBureau_wish [.ref 1, .int x, .int y] M (some (.int (bI b))) M2 := by
  have k1 : mKd M 1 = (5, 5) := hO.k 1
  have k2 : mKd M 2 = (0, 4) := hO.k 2
  have r1 : mr M 1 0 = some 2 := hO.r 1 0 2
  show mP (d + 1) mBureau_wish 0 [.ref 1, .int x, .int y] [] M _
  (repeat (first | refine mP_go rfl rfl ?_ | ((show mP _ _ _ _ (Value.ref _ :: _) _ _); first | refine mP_getIv rfl (by assumption) (by assumption) ?_ | refine mP_getI rfl (by assumption) ?_ | refine mP_getR rfl (by assumption) (by assumption) ?_ | refine mP_getLv rfl (by assumption) (by assumption) ?_ | refine mP_getL rfl (by assumption) ?_) | ((show mP _ _ _ _ (_ :: Value.ref _ :: _) _ _); first | refine mP_putI rfl (by assumption) ?_ | refine mP_putL rfl (by assumption) ?_)); (try dsimp only))
  refine mP_V rfl rfl k2 rfl h ?_
  exact mP_retB rfl rfl (bI_01 b) ⟨rfl, rfl⟩
theorem sp_Btwins {d : Nat} {M M2 : mM} {x y : Int32} {b : Bool} (hO : mOK M) (h : mR d mCouples_join [.ref 5, .int x, .int y] M (some (.int (bI b))) M2) : mR (d + 1) mBureau_twins [.ref 1, .int x, .int y] M (some (.int (bI b))) M2 := by
  have k1 : mKd M 1 = (5, 5) := hO.k 1
  have k2 : mKd M 5 = (0, 4) := hO.k 5
  have r1 : mr M 1 1 = some 5 := hO.r 1 1 5
  show mP (d + 1) mBureau_twins 0 [.ref 1, .int x, .int y] [] M _
  (repeat (first | refine mP_go rfl rfl ?_ | ((show mP _ _ _ _ (Value.ref _ :: _) _ _); first | refine mP_getIv rfl (by assumption) (by assumption) ?_ | refine mP_getI rfl (by assumption) ?_ | refine mP_getR rfl (by assumption) (by assumption) ?_ | refine mP_getLv rfl (by assumption) (by assumption) ?_ | refine mP_getL rfl (by assumption) ?_) | ((show mP _ _ _ _ (_ :: Value.ref _ :: _) _ _); first | refine mP_putI rfl (by assumption) ?_ | refine mP_putL rfl (by assumption) ?_)); (try dsimp only))
  refine mP_V rfl rfl k2 rfl h ?_
  exact mP_retB rfl rfl (bI_01 b) ⟨rfl, rfl⟩
/-- the wishes (twins) of both sides -/
def InvC (a f g c f' g' : Nat) (M : mM) : Prop := ∃ (n t : Nat) (F G : Nat → Nat), cpA n t F G ∧ cpR n t F G (mi M a) (mi M f) (mi M g) ∧ mpR n F G (mi M 28 c) (mi M f') (mi M g')
abbrev InvW (M : mM) : Prop := InvC 2 3 4 3 29 30 M
abbrev InvT (M : mM) : Prop := InvC 5 6 7 6 31 32 M
theorem InvC.of {a f g c f' g' : Nat} {M M' : mM} (h : InvC a f g c f' g' M) (e1 : mi M' a = mi M a) (e2 : mi M' f = mi M f) (e3 : mi M' g = mi M g) (e4 : mi M' 28 c = mi M 28 c) (e5 : mi M' f' = mi M f') (e6 : mi M' g' = mi M g') : InvC a f g c f' g' M' := by
  unfold InvC at h ⊢
  rw [e1, e2, e3, e4, e5, e6]
  exact h
/-- only these rows of ints, and of longs, have changed; row 28 apart from these places -/
def Fr (S : List Nat) (P : List Nat) (M M' : mM) : Prop := mK M' = mK M ∧ mLn M' = mLn M ∧ mSl M' = mSl M ∧ mr M' = mr M ∧ (∀ a, a ∉ S → a ≠ 28 → mi M' a = mi M a ∧ ml M' a = ml M a) ∧ (∀ j, j ∉ P → mi M' 28 j = mi M 28 j)
theorem Fr.ok {S P : List Nat} {M M' : mM} (h : Fr S P M M') (hO : mOK M) : mOK M' := by
  obtain ⟨h1, h2, -, h4, -⟩ := h
  have e : ∀ k, mKd M' k = mKd M k := fun k => by unfold mKd; rw [h1, h2]
  exact ⟨fun k q1 q2 => by rw [e]; exact hO.1 k q1 q2, by rw [h4]; exact hO.2.1, by rw [h2]; exact hO.2.2⟩
theorem Fr.trans {S S' P P' : List Nat} {M M1 M2 : mM} (h : Fr S P M M1) (h' : Fr S' P' M1 M2) : Fr (S ++ S') (P ++ P') M M2 := by
  obtain ⟨a1, a2, a3, a4, a5, a6⟩ := h
  obtain ⟨b1, b2, b3, b4, b5, b6⟩ := h'
  refine ⟨b1.trans a1, b2.trans a2, b3.trans a3, b4.trans a4, fun a ha h28 => ?_, fun j hj => ?_⟩
  · have x1 : a ∉ S := fun q => ha (List.mem_append_left _ q)
    have x2 : a ∉ S' := fun q => ha (List.mem_append_right _ q)
    exact ⟨(b5 a x2 h28).1.trans (a5 a x1 h28).1, (b5 a x2 h28).2.trans (a5 a x1 h28).2⟩
  · exact (b6 j (fun q => hj (List.mem_append_right _ q))).trans (a6 j (fun q => hj (List.mem_append_left _ q)))
theorem Fr_wI (M : mM) (a : Nat) (f : Nat → Int32) (ha : a ≠ 28) : Fr [a] [] M (wI M a f) := by
  refine ⟨rfl, rfl, rfl, rfl, fun b hb _ => ⟨?_, rfl⟩, fun j _ => ?_⟩
  · rw [mi_wI, if_neg (by simpa using hb)]
  · rw [mi_wI, if_neg (fun q => ha q.symm)]
theorem Fr_wL (M : mM) (a : Nat) (f : Nat → Int64) : Fr [a] [] M (wL M a f) := by
  refine ⟨rfl, rfl, rfl, rfl, fun b hb _ => ⟨rfl, ?_⟩, fun j _ => rfl⟩
  rw [ml_wL, if_neg (by simpa using hb)]
theorem Fr_w28 (M : mM) (p : Nat) (x : Int32) : Fr [] [p] M (wI M 28 (va_up (mi M 28) p x)) := by
  refine ⟨rfl, rfl, rfl, rfl, fun b hb h28 => ⟨?_, rfl⟩, fun j hj => ?_⟩
  · rw [mi_wI, if_neg h28]
  · rw [mi_wI, if_pos rfl, mU_ne (by simpa using hj)]
theorem Fr_rfl (M : mM) : Fr [] [] M M := ⟨Eq.refl _, Eq.refl _, Eq.refl _, Eq.refl _, fun _ _ _ => ⟨Eq.refl _, Eq.refl _⟩, fun _ _ => Eq.refl _⟩
theorem Fr.weaken {S S' P P' : List Nat} {M M' : mM} (h : Fr S P M M') (h1 : ∀ a ∈ S, a ∈ S') (h2 : ∀ j ∈ P, j ∈ P') : Fr S' P' M M' := by
  obtain ⟨a1, a2, a3, a4, a5, a6⟩ := h
  exact ⟨a1, a2, a3, a4, fun a ha => a5 a (fun q => ha (h1 a q)), fun j hj => a6 j (fun q => hj (h2 j q))⟩
theorem Fr.gi {S P : List Nat} {M M' : mM} (h : Fr S P M M') (a : Nat) (ha : a ∉ S := by decide) (h28 : a ≠ 28 := by decide) : mi M' a = mi M a := (h.2.2.2.2.1 a ha h28).1
theorem Fr.gl {S P : List Nat} {M M' : mM} (h : Fr S P M M') (a : Nat) (ha : a ∉ S := by decide) (h28 : a ≠ 28 := by decide) : ml M' a = ml M a := (h.2.2.2.2.1 a ha h28).2
theorem Fr.g28 {S P : List Nat} {M M' : mM} (h : Fr S P M M') (j : Nat) (hj : j ∉ P := by decide) : mi M' 28 j = mi M 28 j := h.2.2.2.2.2 j hj
theorem mpW_wish_fr (M : mM) (n x y : Nat) : Fr [29, 30] [0, 3] M (mpW_wish M n x y) := by
  unfold mpW_wish
  have h := ((Fr_wI M 29 (va_up (mi M 29) n (nI x)) (by decide)).trans (Fr_wI _ 30 (va_up (mi M 30) n (nI y)) (by decide)))
  generalize hM1 : wI (wI M 29 (va_up (mi M 29) n (nI x))) 30 (va_up (mi M 30) n (nI y)) = M1 at h ⊢
  have e : mi M 28 = mi M1 28 := by
    rw [← hM1]
    rfl
  rw [e]
  refine (h.trans ((Fr_w28 M1 0 (nI 0)).trans ?_)).weaken (by decide) (by decide) (S := [29, 30] ++ ([] ++ [])) (P := [] ++ ([0] ++ [3]))
  have h2 := Fr_w28 (wI M1 28 (va_up (mi M1 28) 0 (nI 0))) 3 (nI (n + 1))
  rw [wI_wI] at h2
  exact h2
theorem mpW_wish_R {M : mM} {n x y : Nat} {F G : Nat → Nat} (hM : mpR n F G (mi M 28 3) (mi M 29) (mi M 30)) : mpR (n + 1) (va_up F n x) (va_up G n y) (mi (mpW_wish M n x y) 28 3) (mi (mpW_wish M n x y) 29) (mi (mpW_wish M n x y) 30) := by
  have e1 : mi (mpW_wish M n x y) 28 3 = nI (n + 1) := by
    unfold mpW_wish
    rw [mi_wI, if_pos rfl, mU_eq]
  have e2 : mi (mpW_wish M n x y) 29 = va_up (mi M 29) n (nI x) := rfl
  have e3 : mi (mpW_wish M n x y) 30 = va_up (mi M 30) n (nI y) := rfl
  refine ⟨e1, fun k hk => ?_⟩
  rw [e2, e3]
  by_cases hkn : k = n
  · subst hkn
    simp only [mU_eq, and_self]
  · rw [mU_ne hkn, mU_ne hkn, mU_ne hkn, mU_ne hkn]
    exact hM.2 k (by omega)
/-- wish: both answer alike -/
theorem op_wish {d : Nat} {M : mM} (hO : mOK M) (hI : InvW M) (x y : Int32) : ∃ (b : Bool) (M1 M2 : mM), mR (d + 2) mBureau_wish [.ref 1, .int x, .int y] M (some (.int (bI b))) M1 ∧ mR (d + 1) mModel_wish [.ref 28, .int x, .int y] M1 (some (.int (bI b))) M2 ∧ InvW M2 ∧ Fr [2, 3, 4, 29, 30] [0, 3] M M2 ∧ Fr [2, 3, 4] [] M M1 := by
  obtain ⟨n, t, F, G, hC, hR, hM⟩ := hI
  cases hj : cpJ t x y with
  | false =>
    have f0 := Fr_w28 M 0 (nI 0)
    refine ⟨false, M, _, sp_Bwish hO (sp_join_no (cpAt_w hO) hC hR hj), sp_mwish_no hO hC hM hj, ?_, f0.weaken (by decide) (by decide), (Fr_rfl M).weaken (by decide) (by decide)⟩
    exact InvC.of ⟨n, t, F, G, hC, hR, hM⟩ (f0.gi 2) (f0.gi 3) (f0.gi 4) (f0.g28 3) (f0.gi 29) (f0.gi 30)
  | true =>
    simp only [cpJ, Bool.and_eq_true, decide_eq_true_eq] at hj
    obtain ⟨⟨h1, h2⟩, h3⟩ := hj
    obtain ⟨i, hi, rfl, bi⟩ := sgl_iff.mp h2
    obtain ⟨j, hj, rfl, bj⟩ := sgl_iff.mp h3
    have hij : i ≠ j := fun q => h1 (by rw [q])
    have hadd := hC.add hi hj hij bi bj
    have f1 : Fr [3, 4, 2] [] M (cpW M 2 3 4 n t i j) := ((Fr_wI M 3 _ (by decide)).trans (Fr_wI _ 4 _ (by decide))).trans (Fr_wI _ 2 _ (by decide))
    have hB := sp_Bwish hO (sp_join_yes (d := d) (cpAt_w hO) (by decide) hC hR hi hj hij bi bj)
    have hR1 := cpW_R (M := M) (a := 2) (f := 3) (g := 4) (x := i) (y := j) (by decide) hR
    generalize cpW M 2 3 4 n t i j = M1 at f1 hB hR1
    have hO1 := f1.ok hO
    have hM1 : mpR n F G (mi M1 28 3) (mi M1 29) (mi M1 30) := by
      rw [f1.g28 3, f1.gi 29, f1.gi 30]
      exact hM
    have hD := sp_mwish_yes (d := d) hO1 hC hM1 hi hj hij bi bj
    have f2 := mpW_wish_fr M1 n i j
    have hM2 := mpW_wish_R (x := i) (y := j) hM1
    generalize mpW_wish M1 n i j = M2 at hD f2 hM2
    refine ⟨true, M1, M2, hB, hD, ⟨n + 1, _, _, _, hadd.1, ?_, hM2⟩, (f1.trans f2).weaken (by decide) (by decide), f1.weaken (by decide) (by decide)⟩
    rw [f2.gi 2, f2.gi 3, f2.gi 4]
    exact hR1
theorem mpW_twins_fr (M : mM) (n x y : Nat) : Fr [31, 32] [0, 6] M (mpW_twins M n x y) := by
  unfold mpW_twins
  have h := ((Fr_wI M 31 (va_up (mi M 31) n (nI x)) (by decide)).trans (Fr_wI _ 32 (va_up (mi M 32) n (nI y)) (by decide)))
  generalize hM1 : wI (wI M 31 (va_up (mi M 31) n (nI x))) 32 (va_up (mi M 32) n (nI y)) = M1 at h ⊢
  have e : mi M 28 = mi M1 28 := by
    rw [← hM1]
    rfl
  rw [e]
  refine (h.trans ((Fr_w28 M1 0 (nI 0)).trans ?_)).weaken (by decide) (by decide) (S := [31, 32] ++ ([] ++ [])) (P := [] ++ ([0] ++ [6]))
  have h2 := Fr_w28 (wI M1 28 (va_up (mi M1 28) 0 (nI 0))) 6 (nI (n + 1))
  rw [wI_wI] at h2
  exact h2
theorem mpW_twins_R {M : mM} {n x y : Nat} {F G : Nat → Nat} (hM : mpR n F G (mi M 28 6) (mi M 31) (mi M 32)) : mpR (n + 1) (va_up F n x) (va_up G n y) (mi (mpW_twins M n x y) 28 6) (mi (mpW_twins M n x y) 31) (mi (mpW_twins M n x y) 32) := by
  have e1 : mi (mpW_twins M n x y) 28 6 = nI (n + 1) := by
    unfold mpW_twins
    rw [mi_wI, if_pos rfl, mU_eq]
  have e2 : mi (mpW_twins M n x y) 31 = va_up (mi M 31) n (nI x) := rfl
  have e3 : mi (mpW_twins M n x y) 32 = va_up (mi M 32) n (nI y) := rfl
  refine ⟨e1, fun k hk => ?_⟩
  rw [e2, e3]
  by_cases hkn : k = n
  · subst hkn
    simp only [mU_eq, and_self]
  · rw [mU_ne hkn, mU_ne hkn, mU_ne hkn, mU_ne hkn]
    exact hM.2 k (by omega)
/-- twins: both answer alike -/
theorem op_twins {d : Nat} {M : mM} (hO : mOK M) (hI : InvT M) (x y : Int32) : ∃ (b : Bool) (M1 M2 : mM), mR (d + 2) mBureau_twins [.ref 1, .int x, .int y] M (some (.int (bI b))) M1 ∧ mR (d + 1) mModel_twins [.ref 28, .int x, .int y] M1 (some (.int (bI b))) M2 ∧ InvT M2 ∧ Fr [5, 6, 7, 31, 32] [0, 6] M M2 ∧ Fr [5, 6, 7] [] M M1 := by
  obtain ⟨n, t, F, G, hC, hR, hM⟩ := hI
  cases hj : cpJ t x y with
  | false =>
    have f0 := Fr_w28 M 0 (nI 0)
    refine ⟨false, M, _, sp_Btwins hO (sp_join_no (cpAt_t hO) hC hR hj), sp_mtwins_no hO hC hM hj, ?_, f0.weaken (by decide) (by decide), (Fr_rfl M).weaken (by decide) (by decide)⟩
    exact InvC.of ⟨n, t, F, G, hC, hR, hM⟩ (f0.gi 5) (f0.gi 6) (f0.gi 7) (f0.g28 6) (f0.gi 31) (f0.gi 32)
  | true =>
    simp only [cpJ, Bool.and_eq_true, decide_eq_true_eq] at hj
    obtain ⟨⟨h1, h2⟩, h3⟩ := hj
    obtain ⟨i, hi, rfl, bi⟩ := sgl_iff.mp h2
    obtain ⟨j, hj, rfl, bj⟩ := sgl_iff.mp h3
    have hij : i ≠ j := fun q => h1 (by rw [q])
    have hadd := hC.add hi hj hij bi bj
    have f1 : Fr [6, 7, 5] [] M (cpW M 5 6 7 n t i j) := ((Fr_wI M 6 _ (by decide)).trans (Fr_wI _ 7 _ (by decide))).trans (Fr_wI _ 5 _ (by decide))
    have hB := sp_Btwins hO (sp_join_yes (d := d) (cpAt_t hO) (by decide) hC hR hi hj hij bi bj)
    have hR1 := cpW_R (M := M) (a := 5) (f := 6) (g := 7) (x := i) (y := j) (by decide) hR
    generalize cpW M 5 6 7 n t i j = M1 at f1 hB hR1
    have hO1 := f1.ok hO
    have hM1 : mpR n F G (mi M1 28 6) (mi M1 31) (mi M1 32) := by
      rw [f1.g28 6, f1.gi 31, f1.gi 32]
      exact hM
    have hD := sp_mtwins_yes (d := d) hO1 hC hM1 hi hj hij bi bj
    have f2 := mpW_twins_fr M1 n i j
    have hM2 := mpW_twins_R (x := i) (y := j) hM1
    generalize mpW_twins M1 n i j = M2 at hD f2 hM2
    refine ⟨true, M1, M2, hB, hD, ⟨n + 1, _, _, _, hadd.1, ?_, hM2⟩, (f1.trans f2).weaken (by decide) (by decide), f1.weaken (by decide) (by decide)⟩
    rw [f2.gi 5, f2.gi 6, f2.gi 7]
    exact hR1

/-- drop -/
theorem sp_mdrop {d : Nat} {M : mM} (hO : mOK M) (w : Int32) : mR d mModel_drop [.ref 28, .int w] M (some (.int (bI (decide (w = 0) || decide (w = 1))))) (wI M 28 (if w = 0 then va_up (va_up (mi M 28) 0 (nI 0)) 3 (nI 0) else if w = 1 then va_up (va_up (mi M 28) 0 (nI 0)) 6 (nI 0) else va_up (mi M 28) 0 (nI 0))) := by
  have k28 : mKd M 28 = (6, 27) := hO.k 28
  show mP d mModel_drop 0 [.ref 28, .int w] [] M _
  (repeat (first | refine mP_go rfl rfl ?_ | ((show mP _ _ _ _ (Value.ref _ :: _) _ _); first | refine mP_getIv rfl (by assumption) (by assumption) ?_ | refine mP_getI rfl (by assumption) ?_ | refine mP_getR rfl (by assumption) (by assumption) ?_ | refine mP_getLv rfl (by assumption) (by assumption) ?_ | refine mP_getL rfl (by assumption) ?_) | ((show mP _ _ _ _ (_ :: Value.ref _ :: _) _ _); first | refine mP_putI rfl (by assumption) ?_ | refine mP_putL rfl (by assumption) ?_)); (try dsimp only))
  by_cases h0 : w = 0
  · subst h0
    (repeat (first | refine mP_go rfl rfl ?_ | ((show mP _ _ _ _ (Value.ref _ :: _) _ _); first | refine mP_getIv rfl (by assumption) (by assumption) ?_ | refine mP_getI rfl (by assumption) ?_ | refine mP_getR rfl (by assumption) (by assumption) ?_ | refine mP_getLv rfl (by assumption) (by assumption) ?_ | refine mP_getL rfl (by assumption) ?_) | ((show mP _ _ _ _ (_ :: Value.ref _ :: _) _ _); first | refine mP_putI rfl (by assumption) ?_ | refine mP_putL rfl (by assumption) ?_)); (try dsimp only))
    refine mP_ret rfl rfl ⟨rfl, ?_⟩
    simp only [mi_wI, if_true, wI_wI]
    rfl
  · refine mP_ifT rfl (decide_eq_true h0) ?_
    (repeat (first | refine mP_go rfl rfl ?_ | ((show mP _ _ _ _ (Value.ref _ :: _) _ _); first | refine mP_getIv rfl (by assumption) (by assumption) ?_ | refine mP_getI rfl (by assumption) ?_ | refine mP_getR rfl (by assumption) (by assumption) ?_ | refine mP_getLv rfl (by assumption) (by assumption) ?_ | refine mP_getL rfl (by assumption) ?_) | ((show mP _ _ _ _ (_ :: Value.ref _ :: _) _ _); first | refine mP_putI rfl (by assumption) ?_ | refine mP_putL rfl (by assumption) ?_)); (try dsimp only))
    by_cases h1 : w = 1
    · subst h1
      (repeat (first | refine mP_go rfl rfl ?_ | ((show mP _ _ _ _ (Value.ref _ :: _) _ _); first | refine mP_getIv rfl (by assumption) (by assumption) ?_ | refine mP_getI rfl (by assumption) ?_ | refine mP_getR rfl (by assumption) (by assumption) ?_ | refine mP_getLv rfl (by assumption) (by assumption) ?_ | refine mP_getL rfl (by assumption) ?_) | ((show mP _ _ _ _ (_ :: Value.ref _ :: _) _ _); first | refine mP_putI rfl (by assumption) ?_ | refine mP_putL rfl (by assumption) ?_)); (try dsimp only))
      refine mP_ret rfl rfl ⟨rfl, ?_⟩
      simp only [mi_wI, if_true, wI_wI]
      rfl
    · refine mP_cmpT rfl (decide_eq_true h1) ?_
      (repeat (first | refine mP_go rfl rfl ?_ | ((show mP _ _ _ _ (Value.ref _ :: _) _ _); first | refine mP_getIv rfl (by assumption) (by assumption) ?_ | refine mP_getI rfl (by assumption) ?_ | refine mP_getR rfl (by assumption) (by assumption) ?_ | refine mP_getLv rfl (by assumption) (by assumption) ?_ | refine mP_getL rfl (by assumption) ?_) | ((show mP _ _ _ _ (_ :: Value.ref _ :: _) _ _); first | refine mP_putI rfl (by assumption) ?_ | refine mP_putL rfl (by assumption) ?_)); (try dsimp only))
      refine mP_ifF rfl (decide_eq_false h0) ?_
      (repeat (first | refine mP_go rfl rfl ?_ | ((show mP _ _ _ _ (Value.ref _ :: _) _ _); first | refine mP_getIv rfl (by assumption) (by assumption) ?_ | refine mP_getI rfl (by assumption) ?_ | refine mP_getR rfl (by assumption) (by assumption) ?_ | refine mP_getLv rfl (by assumption) (by assumption) ?_ | refine mP_getL rfl (by assumption) ?_) | ((show mP _ _ _ _ (_ :: Value.ref _ :: _) _ _); first | refine mP_putI rfl (by assumption) ?_ | refine mP_putL rfl (by assumption) ?_)); (try dsimp only))
      refine mP_cmpT rfl (decide_eq_true h1) ?_
      (repeat (first | refine mP_go rfl rfl ?_ | ((show mP _ _ _ _ (Value.ref _ :: _) _ _); first | refine mP_getIv rfl (by assumption) (by assumption) ?_ | refine mP_getI rfl (by assumption) ?_ | refine mP_getR rfl (by assumption) (by assumption) ?_ | refine mP_getLv rfl (by assumption) (by assumption) ?_ | refine mP_getL rfl (by assumption) ?_) | ((show mP _ _ _ _ (_ :: Value.ref _ :: _) _ _); first | refine mP_putI rfl (by assumption) ?_ | refine mP_putL rfl (by assumption) ?_)); (try dsimp only))
      refine mP_ret rfl rfl ⟨by rw [decide_eq_false h0, decide_eq_false h1]; rfl, ?_⟩
      rw [if_neg h0, if_neg h1]
      rfl
theorem sp_Bdrop {d : Nat} {M : mM} (hO : mOK M) (w : Int32) : mR (d + 1) mBureau_drop [.ref 1, .int w] M (some (.int (bI (decide (w = 0) || decide (w = 1))))) (if w = 0 then wI M 2 (va_up (va_up (mi M 2) 2 (nI 0)) 3 (nI 0)) else if w = 1 then wI M 5 (va_up (va_up (mi M 5) 2 (nI 0)) 3 (nI 0)) else M) := by
  have k1 : mKd M 1 = (5, 5) := hO.k 1
  have k2 : mKd M 2 = (0, 4) := hO.k 2
  have k5 : mKd M 5 = (0, 4) := hO.k 5
  have r1 : mr M 1 0 = some 2 := hO.r 1 0 2
  have r2 : mr M 1 1 = some 5 := hO.r 1 1 5
  show mP (d + 1) mBureau_drop 0 [.ref 1, .int w] [] M _
  (repeat (first | refine mP_go rfl rfl ?_ | ((show mP _ _ _ _ (Value.ref _ :: _) _ _); first | refine mP_getIv rfl (by assumption) (by assumption) ?_ | refine mP_getI rfl (by assumption) ?_ | refine mP_getR rfl (by assumption) (by assumption) ?_ | refine mP_getLv rfl (by assumption) (by assumption) ?_ | refine mP_getL rfl (by assumption) ?_) | ((show mP _ _ _ _ (_ :: Value.ref _ :: _) _ _); first | refine mP_putI rfl (by assumption) ?_ | refine mP_putL rfl (by assumption) ?_)); (try dsimp only))
  by_cases h0 : w = 0
  · subst h0
    (repeat (first | refine mP_go rfl rfl ?_ | ((show mP _ _ _ _ (Value.ref _ :: _) _ _); first | refine mP_getIv rfl (by assumption) (by assumption) ?_ | refine mP_getI rfl (by assumption) ?_ | refine mP_getR rfl (by assumption) (by assumption) ?_ | refine mP_getLv rfl (by assumption) (by assumption) ?_ | refine mP_getL rfl (by assumption) ?_) | ((show mP _ _ _ _ (_ :: Value.ref _ :: _) _ _); first | refine mP_putI rfl (by assumption) ?_ | refine mP_putL rfl (by assumption) ?_)); (try dsimp only))
    refine mP_V rfl rfl k2 rfl (sp_forget (cpAt_w hO)) ?_
    (repeat (first | refine mP_go rfl rfl ?_ | ((show mP _ _ _ _ (Value.ref _ :: _) _ _); first | refine mP_getIv rfl (by assumption) (by assumption) ?_ | refine mP_getI rfl (by assumption) ?_ | refine mP_getR rfl (by assumption) (by assumption) ?_ | refine mP_getLv rfl (by assumption) (by assumption) ?_ | refine mP_getL rfl (by assumption) ?_) | ((show mP _ _ _ _ (_ :: Value.ref _ :: _) _ _); first | refine mP_putI rfl (by assumption) ?_ | refine mP_putL rfl (by assumption) ?_)); (try dsimp only))
    exact mP_ret rfl rfl ⟨rfl, rfl⟩
  · refine mP_ifT rfl (decide_eq_true h0) ?_
    (repeat (first | refine mP_go rfl rfl ?_ | ((show mP _ _ _ _ (Value.ref _ :: _) _ _); first | refine mP_getIv rfl (by assumption) (by assumption) ?_ | refine mP_getI rfl (by assumption) ?_ | refine mP_getR rfl (by assumption) (by assumption) ?_ | refine mP_getLv rfl (by assumption) (by assumption) ?_ | refine mP_getL rfl (by assumption) ?_) | ((show mP _ _ _ _ (_ :: Value.ref _ :: _) _ _); first | refine mP_putI rfl (by assumption) ?_ | refine mP_putL rfl (by assumption) ?_)); (try dsimp only))
    by_cases h1 : w = 1
    · subst h1
      (repeat (first | refine mP_go rfl rfl ?_ | ((show mP _ _ _ _ (Value.ref _ :: _) _ _); first | refine mP_getIv rfl (by assumption) (by assumption) ?_ | refine mP_getI rfl (by assumption) ?_ | refine mP_getR rfl (by assumption) (by assumption) ?_ | refine mP_getLv rfl (by assumption) (by assumption) ?_ | refine mP_getL rfl (by assumption) ?_) | ((show mP _ _ _ _ (_ :: Value.ref _ :: _) _ _); first | refine mP_putI rfl (by assumption) ?_ | refine mP_putL rfl (by assumption) ?_)); (try dsimp only))
      refine mP_V rfl rfl k5 rfl (sp_forget (cpAt_t hO)) ?_
      (repeat (first | refine mP_go rfl rfl ?_ | ((show mP _ _ _ _ (Value.ref _ :: _) _ _); first | refine mP_getIv rfl (by assumption) (by assumption) ?_ | refine mP_getI rfl (by assumption) ?_ | refine mP_getR rfl (by assumption) (by assumption) ?_ | refine mP_getLv rfl (by assumption) (by assumption) ?_ | refine mP_getL rfl (by assumption) ?_) | ((show mP _ _ _ _ (_ :: Value.ref _ :: _) _ _); first | refine mP_putI rfl (by assumption) ?_ | refine mP_putL rfl (by assumption) ?_)); (try dsimp only))
      exact mP_ret rfl rfl ⟨rfl, rfl⟩
    · refine mP_cmpT rfl (decide_eq_true h1) ?_
      (repeat (first | refine mP_go rfl rfl ?_ | ((show mP _ _ _ _ (Value.ref _ :: _) _ _); first | refine mP_getIv rfl (by assumption) (by assumption) ?_ | refine mP_getI rfl (by assumption) ?_ | refine mP_getR rfl (by assumption) (by assumption) ?_ | refine mP_getLv rfl (by assumption) (by assumption) ?_ | refine mP_getL rfl (by assumption) ?_) | ((show mP _ _ _ _ (_ :: Value.ref _ :: _) _ _); first | refine mP_putI rfl (by assumption) ?_ | refine mP_putL rfl (by assumption) ?_)); (try dsimp only))
      exact mP_ret rfl rfl ⟨by rw [decide_eq_false h0, decide_eq_false h1]; rfl, by rw [if_neg h0, if_neg h1]⟩
theorem InvC.nil {a f g c f' g' : Nat} {M : mM} (h1 : mi M a 2 = nI 0) (h2 : mi M a 3 = nI 0) (h3 : mi M 28 c = nI 0) : InvC a f g c f' g' M := ⟨0, 0, fun _ => 0, fun _ => 0, cpA.nil _ _, ⟨h1, h2, fun i h => by omega⟩, h3, fun i h => by omega⟩
theorem op_drop {d : Nat} {M : mM} (hO : mOK M) (hW : InvW M) (hT : InvT M) (w : Int32) : ∃ (b : Bool) (M1 M2 : mM), mR (d + 1) mBureau_drop [.ref 1, .int w] M (some (.int (bI b))) M1 ∧ mR d mModel_drop [.ref 28, .int w] M1 (some (.int (bI b))) M2 ∧ InvW M2 ∧ InvT M2 ∧ Fr [2, 5] [0, 3, 6] M M2 ∧ Fr [2, 5] [] M M1 := by
  have hB := sp_Bdrop (d := d) hO w
  by_cases h0 : w = 0
  · subst h0
    rw [if_pos rfl] at hB
    have f1 := Fr_wI M 2 (va_up (va_up (mi M 2) 2 (nI 0)) 3 (nI 0)) (by decide)
    have e1 : mi (wI M 2 (va_up (va_up (mi M 2) 2 (nI 0)) 3 (nI 0))) 2 2 = nI 0 := rfl
    have e2 : mi (wI M 2 (va_up (va_up (mi M 2) 2 (nI 0)) 3 (nI 0))) 2 3 = nI 0 := rfl
    generalize wI M 2 (va_up (va_up (mi M 2) 2 (nI 0)) 3 (nI 0)) = M1 at hB f1 e1 e2
    have hD := sp_mdrop (d := d) (f1.ok hO) 0
    rw [if_pos rfl] at hD
    have f2 : Fr [] [0, 3] M1 (wI M1 28 (va_up (va_up (mi M1 28) 0 (nI 0)) 3 (nI 0))) := by
      have h2 := (Fr_w28 M1 0 (nI 0)).trans (Fr_w28 (wI M1 28 (va_up (mi M1 28) 0 (nI 0))) 3 (nI 0))
      rw [wI_wI] at h2
      exact h2
    have e3 : mi (wI M1 28 (va_up (va_up (mi M1 28) 0 (nI 0)) 3 (nI 0))) 28 3 = nI 0 := rfl
    generalize wI M1 28 (va_up (va_up (mi M1 28) 0 (nI 0)) 3 (nI 0)) = M2 at hD f2 e3
    have f3 := f1.trans f2
    exact ⟨_, M1, M2, hB, hD, InvC.nil (by rw [f2.gi 2]; exact e1) (by rw [f2.gi 2]; exact e2) e3, hT.of (f3.gi 5) (f3.gi 6) (f3.gi 7) (f3.g28 6) (f3.gi 31) (f3.gi 32), f3.weaken (by decide) (by decide), f1.weaken (by decide) (by decide)⟩
  · rw [if_neg h0] at hB
    by_cases h1 : w = 1
    · subst h1
      rw [if_pos rfl] at hB
      have f1 := Fr_wI M 5 (va_up (va_up (mi M 5) 2 (nI 0)) 3 (nI 0)) (by decide)
      have e1 : mi (wI M 5 (va_up (va_up (mi M 5) 2 (nI 0)) 3 (nI 0))) 5 2 = nI 0 := rfl
      have e2 : mi (wI M 5 (va_up (va_up (mi M 5) 2 (nI 0)) 3 (nI 0))) 5 3 = nI 0 := rfl
      generalize wI M 5 (va_up (va_up (mi M 5) 2 (nI 0)) 3 (nI 0)) = M1 at hB f1 e1 e2
      have hD := sp_mdrop (d := d) (f1.ok hO) 1
      rw [if_neg (by decide), if_pos rfl] at hD
      have f2 : Fr [] [0, 6] M1 (wI M1 28 (va_up (va_up (mi M1 28) 0 (nI 0)) 6 (nI 0))) := by
        have h2 := (Fr_w28 M1 0 (nI 0)).trans (Fr_w28 (wI M1 28 (va_up (mi M1 28) 0 (nI 0))) 6 (nI 0))
        rw [wI_wI] at h2
        exact h2
      have e3 : mi (wI M1 28 (va_up (va_up (mi M1 28) 0 (nI 0)) 6 (nI 0))) 28 6 = nI 0 := rfl
      generalize wI M1 28 (va_up (va_up (mi M1 28) 0 (nI 0)) 6 (nI 0)) = M2 at hD f2 e3
      have f3 := f1.trans f2
      exact ⟨_, M1, M2, hB, hD, hW.of (f3.gi 2) (f3.gi 3) (f3.gi 4) (f3.g28 3) (f3.gi 29) (f3.gi 30), InvC.nil (by rw [f2.gi 5]; exact e1) (by rw [f2.gi 5]; exact e2) e3, f3.weaken (by decide) (by decide), f1.weaken (by decide) (by decide)⟩
    · rw [if_neg h1] at hB
      have hD := sp_mdrop (d := d) hO w
      rw [if_neg h0, if_neg h1] at hD
      have f2 := Fr_w28 M 0 (nI 0)
      generalize wI M 28 (va_up (mi M 28) 0 (nI 0)) = M2 at hD f2
      exact ⟨_, M, M2, hB, hD, hW.of (f2.gi 2) (f2.gi 3) (f2.gi 4) (f2.g28 3) (f2.gi 29) (f2.gi 30), hT.of (f2.gi 5) (f2.gi 6) (f2.gi 7) (f2.g28 6) (f2.gi 31) (f2.gi 32), f2.weaken (by decide) (by decide), (Fr_rfl M).weaken (by decide) (by decide)⟩
