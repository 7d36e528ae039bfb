/-! COUPLES of the model -/
def mpR (n : Nat) (F G : Nat → Nat) (cnt : Int32) (rf rg : Nat → Int32) : Prop := cnt = nI n ∧ ∀ i, i < n → rf i = nI (F i) ∧ rg i = nI (G i)
theorem sp_within {d : Nat} {M : mM} (v lo hi : Int32) : mR d mModel_within [.int v, .int lo, .int hi] M (some (.int (bI (decide (lo ≤ v) && decide (v ≤ hi))))) M := by
  show mP d mModel_within 0 [.int v, .int lo, .int hi] [] M _
  (repeat (first | refine mP_go rfl rfl ?_ | ((show mP _ _ _ _ (Value.ref _ :: _) _ _); first | refine mP_getIv rfl (by assumption) (by assumption) ?_ | refine mP_getI rfl (by assumption) ?_ | refine mP_getR rfl (by assumption) (by assumption) ?_ | refine mP_getLv rfl (by assumption) (by assumption) ?_ | refine mP_getL rfl (by assumption) ?_) | ((show mP _ _ _ _ (_ :: Value.ref _ :: _) _ _); first | refine mP_putI rfl (by assumption) ?_ | refine mP_putL rfl (by assumption) ?_)); (try dsimp only))
  by_cases h1 : v < lo
  · refine mP_cmpT rfl (decide_eq_true h1) ?_
    (repeat (first | refine mP_go rfl rfl ?_ | ((show mP _ _ _ _ (Value.ref _ :: _) _ _); first | refine mP_getIv rfl (by assumption) (by assumption) ?_ | refine mP_getI rfl (by assumption) ?_ | refine mP_getR rfl (by assumption) (by assumption) ?_ | refine mP_getLv rfl (by assumption) (by assumption) ?_ | refine mP_getL rfl (by assumption) ?_) | ((show mP _ _ _ _ (_ :: Value.ref _ :: _) _ _); first | refine mP_putI rfl (by assumption) ?_ | refine mP_putL rfl (by assumption) ?_)); (try dsimp only))
    exact mP_ret rfl rfl ⟨by rw [decide_eq_false (Int32_not_le.mpr h1)]; rfl, rfl⟩
  · refine mP_cmpF rfl (decide_eq_false h1) ?_
    (repeat (first | refine mP_go rfl rfl ?_ | ((show mP _ _ _ _ (Value.ref _ :: _) _ _); first | refine mP_getIv rfl (by assumption) (by assumption) ?_ | refine mP_getI rfl (by assumption) ?_ | refine mP_getR rfl (by assumption) (by assumption) ?_ | refine mP_getLv rfl (by assumption) (by assumption) ?_ | refine mP_getL rfl (by assumption) ?_) | ((show mP _ _ _ _ (_ :: Value.ref _ :: _) _ _); first | refine mP_putI rfl (by assumption) ?_ | refine mP_putL rfl (by assumption) ?_)); (try dsimp only))
    by_cases h2 : hi < v
    · refine mP_cmpT rfl (decide_eq_true h2) ?_
      (repeat (first | refine mP_go rfl rfl ?_ | ((show mP _ _ _ _ (Value.ref _ :: _) _ _); first | refine mP_getIv rfl (by assumption) (by assumption) ?_ | refine mP_getI rfl (by assumption) ?_ | refine mP_getR rfl (by assumption) (by assumption) ?_ | refine mP_getLv rfl (by assumption) (by assumption) ?_ | refine mP_getL rfl (by assumption) ?_) | ((show mP _ _ _ _ (_ :: Value.ref _ :: _) _ _); first | refine mP_putI rfl (by assumption) ?_ | refine mP_putL rfl (by assumption) ?_)); (try dsimp only))
      exact mP_ret rfl rfl ⟨by rw [decide_eq_false (Int32_not_le.mpr h2), Bool.and_false]; rfl, rfl⟩
    · refine mP_cmpF rfl (decide_eq_false h2) ?_
      (repeat (first | refine mP_go rfl rfl ?_ | ((show mP _ _ _ _ (Value.ref _ :: _) _ _); first | refine mP_getIv rfl (by assumption) (by assumption) ?_ | refine mP_getI rfl (by assumption) ?_ | refine mP_getR rfl (by assumption) (by assumption) ?_ | refine mP_getLv rfl (by assumption) (by assumption) ?_ | refine mP_getL rfl (by assumption) ?_) | ((show mP _ _ _ _ (_ :: Value.ref _ :: _) _ _); first | refine mP_putI rfl (by assumption) ?_ | refine mP_putL rfl (by assumption) ?_)); (try dsimp only))
      exact mP_ret rfl rfl ⟨by rw [decide_eq_true (Int32_not_lt.mp h1), decide_eq_true (Int32_not_lt.mp h2)]; rfl, rfl⟩
theorem wi_in {lo hi j : Nat} (h1 : lo ≤ j) (h2 : j ≤ hi) (h : hi < 2 ^ 31) : (decide (nI lo ≤ nI j) && decide (nI j ≤ nI hi)) = true := by
  rw [decide_eq_true ((nI_leI (by omega) (by omega)).mpr h1), decide_eq_true ((nI_leI (by omega) (by omega)).mpr h2)]
  rfl
theorem wi_out {x : Int32} {hi : Nat} (h : hi + 1 < 2 ^ 31) (hx : x < 0 ∨ nI (hi + 1) ≤ x) : (decide (nI 0 ≤ x) && decide (x ≤ nI hi)) = false := by
  rcases hx with hx | hx
  · rw [decide_eq_false (p := nI 0 ≤ x) (fun q => Int32_not_lt.mpr q hx)]; rfl
  · rw [decide_eq_false (p := x ≤ nI hi), Bool.and_false]
    intro q
    rw [Int32.le_iff_toInt_le] at hx q
    rw [nI_toInt (by omega)] at hx q
    omega
theorem sp_has {d : Nat} {M : mM} {f g n t j : Nat} {F G : Nat → Nat} (kf : mKd M f = (10, 8)) (kg : mKd M g = (10, 8)) (hC : cpA n t F G) (hR : ∀ i, i < n → mi M f i = nI (F i) ∧ mi M g i = nI (G i)) (hj : j < 16) : mR d mModel_has [.ref f, .ref g, .int (nI n), .int (nI j)] M (some (.int (bI (t.testBit j)))) M := by
  have hn := hC.le
  have loop : ∀ m i, i + m = n → (∀ k, k < i → F k ≠ j ∧ G k ≠ j) → mP d mModel_has 3 [.ref f, .ref g, .int (nI n), .int (nI j), .int (nI i)] [] M (fun o M' => o = .inl (some (.int (bI (t.testBit j)))) ∧ M' = M) := by
    intro m
    induction m with
    | zero =>
      intro i hi hk
      (repeat (first | refine mP_go rfl rfl ?_ | ((show mP _ _ _ _ (Value.ref _ :: _) _ _); first | refine mP_getIv rfl (by assumption) (by assumption) ?_ | refine mP_getI rfl (by assumption) ?_ | refine mP_getR rfl (by assumption) (by assumption) ?_ | refine mP_getLv rfl (by assumption) (by assumption) ?_ | refine mP_getL rfl (by assumption) ?_) | ((show mP _ _ _ _ (_ :: Value.ref _ :: _) _ _); first | refine mP_putI rfl (by assumption) ?_ | refine mP_putL rfl (by assumption) ?_)); (try dsimp only))
      refine mP_cmpT rfl (decide_eq_true (nI_le (by omega) (by omega))) ?_
      (repeat (first | refine mP_go rfl rfl ?_ | ((show mP _ _ _ _ (Value.ref _ :: _) _ _); first | refine mP_getIv rfl (by assumption) (by assumption) ?_ | refine mP_getI rfl (by assumption) ?_ | refine mP_getR rfl (by assumption) (by assumption) ?_ | refine mP_getLv rfl (by assumption) (by assumption) ?_ | refine mP_getL rfl (by assumption) ?_) | ((show mP _ _ _ _ (_ :: Value.ref _ :: _) _ _); first | refine mP_putI rfl (by assumption) ?_ | refine mP_putL rfl (by assumption) ?_)); (try dsimp only))
      refine mP_ret rfl rfl ⟨?_, rfl⟩
      have : t.testBit j = false := by
        rw [Bool.eq_false_iff]
        intro q
        obtain ⟨k, hk1, hk2⟩ := (hC.2.2.1 j hj).mp q
        have := hk k (by omega)
        rcases hk2 with h | h
        · exact this.1 h
        · exact this.2 h
      rw [this]
      rfl
    | succ m ih =>
      intro i hi hk
      have hF := hC.2.1 i (by omega)
      (repeat (first | refine mP_go rfl rfl ?_ | ((show mP _ _ _ _ (Value.ref _ :: _) _ _); first | refine mP_getIv rfl (by assumption) (by assumption) ?_ | refine mP_getI rfl (by assumption) ?_ | refine mP_getR rfl (by assumption) (by assumption) ?_ | refine mP_getLv rfl (by assumption) (by assumption) ?_ | refine mP_getL rfl (by assumption) ?_) | ((show mP _ _ _ _ (_ :: Value.ref _ :: _) _ _); first | refine mP_putI rfl (by assumption) ?_ | refine mP_putL rfl (by assumption) ?_)); (try dsimp only))
      refine mP_cmpF rfl (decide_eq_false (nI_ge (by omega) (by omega))) ?_
      (repeat (first | refine mP_go rfl rfl ?_ | ((show mP _ _ _ _ (Value.ref _ :: _) _ _); first | refine mP_getIv rfl (by assumption) (by assumption) ?_ | refine mP_getI rfl (by assumption) ?_ | refine mP_getR rfl (by assumption) (by assumption) ?_ | refine mP_getLv rfl (by assumption) (by assumption) ?_ | refine mP_getL rfl (by assumption) ?_) | ((show mP _ _ _ _ (_ :: Value.ref _ :: _) _ _); first | refine mP_putI rfl (by assumption) ?_ | refine mP_putL rfl (by assumption) ?_)); (try dsimp only))
      refine mP_iald rfl kf (by omega) (by decide) ?_
      rw [(hR i (by omega)).1]
      (repeat (first | refine mP_go rfl rfl ?_ | ((show mP _ _ _ _ (Value.ref _ :: _) _ _); first | refine mP_getIv rfl (by assumption) (by assumption) ?_ | refine mP_getI rfl (by assumption) ?_ | refine mP_getR rfl (by assumption) (by assumption) ?_ | refine mP_getLv rfl (by assumption) (by assumption) ?_ | refine mP_getL rfl (by assumption) ?_) | ((show mP _ _ _ _ (_ :: Value.ref _ :: _) _ _); first | refine mP_putI rfl (by assumption) ?_ | refine mP_putL rfl (by assumption) ?_)); (try dsimp only))
      by_cases h1 : F i = j
      · refine mP_cmpT rfl (decide_eq_true (by rw [h1])) ?_
        (repeat (first | refine mP_go rfl rfl ?_ | ((show mP _ _ _ _ (Value.ref _ :: _) _ _); first | refine mP_getIv rfl (by assumption) (by assumption) ?_ | refine mP_getI rfl (by assumption) ?_ | refine mP_getR rfl (by assumption) (by assumption) ?_ | refine mP_getLv rfl (by assumption) (by assumption) ?_ | refine mP_getL rfl (by assumption) ?_) | ((show mP _ _ _ _ (_ :: Value.ref _ :: _) _ _); first | refine mP_putI rfl (by assumption) ?_ | refine mP_putL rfl (by assumption) ?_)); (try dsimp only))
        refine mP_ret rfl rfl ⟨?_, rfl⟩
        rw [(hC.2.2.1 j hj).mpr ⟨i, by omega, Or.inl h1⟩]
        rfl
      · refine mP_cmpF rfl (decide_eq_false (fun q => h1 ((nI_inj (by omega) (by omega)).mp q))) ?_
        (repeat (first | refine mP_go rfl rfl ?_ | ((show mP _ _ _ _ (Value.ref _ :: _) _ _); first | refine mP_getIv rfl (by assumption) (by assumption) ?_ | refine mP_getI rfl (by assumption) ?_ | refine mP_getR rfl (by assumption) (by assumption) ?_ | refine mP_getLv rfl (by assumption) (by assumption) ?_ | refine mP_getL rfl (by assumption) ?_) | ((show mP _ _ _ _ (_ :: Value.ref _ :: _) _ _); first | refine mP_putI rfl (by assumption) ?_ | refine mP_putL rfl (by assumption) ?_)); (try dsimp only))
        refine mP_iald rfl kg (by omega) (by decide) ?_
        rw [(hR i (by omega)).2]
        (repeat (first | refine mP_go rfl rfl ?_ | ((show mP _ _ _ _ (Value.ref _ :: _) _ _); first | refine mP_getIv rfl (by assumption) (by assumption) ?_ | refine mP_getI rfl (by assumption) ?_ | refine mP_getR rfl (by assumption) (by assumption) ?_ | refine mP_getLv rfl (by assumption) (by assumption) ?_ | refine mP_getL rfl (by assumption) ?_) | ((show mP _ _ _ _ (_ :: Value.ref _ :: _) _ _); first | refine mP_putI rfl (by assumption) ?_ | refine mP_putL rfl (by assumption) ?_)); (try dsimp only))
        by_cases h2 : G i = j
        · refine mP_cmpF rfl (decide_eq_false (fun q => q (by rw [h2]))) ?_
          (repeat (first | refine mP_go rfl rfl ?_ | ((show mP _ _ _ _ (Value.ref _ :: _) _ _); first | refine mP_getIv rfl (by assumption) (by assumption) ?_ | refine mP_getI rfl (by assumption) ?_ | refine mP_getR rfl (by assumption) (by assumption) ?_ | refine mP_getLv rfl (by assumption) (by assumption) ?_ | refine mP_getL rfl (by assumption) ?_) | ((show mP _ _ _ _ (_ :: Value.ref _ :: _) _ _); first | refine mP_putI rfl (by assumption) ?_ | refine mP_putL rfl (by assumption) ?_)); (try dsimp only))
          refine mP_ret rfl rfl ⟨?_, rfl⟩
          rw [(hC.2.2.1 j hj).mpr ⟨i, by omega, Or.inr h2⟩]
          rfl
        · refine mP_cmpT rfl (decide_eq_true (fun q => h2 ((nI_inj (by omega) (by omega)).mp q))) ?_
          refine mP_go rfl rfl ?_
          refine mP_go rfl rfl ?_
          rw [nI_inc]
          refine ih (i + 1) (by omega) (fun k hk2 => ?_)
          by_cases hki : k = i
          · subst hki; exact ⟨h1, h2⟩
          · exact hk k (by omega)
  show mP d mModel_has 0 [.ref f, .ref g, .int (nI n), .int (nI j), .retAddr 0] [] M _
  refine mP_go rfl rfl ?_
  refine mP_go rfl rfl ?_
  exact loop n 0 (by omega) (fun k hk => by omega)

theorem sp_mwish_no {d : Nat} {M : mM} {n t : Nat} {F G : Nat → Nat} (hO : mOK M) (hC : cpA n t F G) (hR : mpR n F G (mi M 28 3) (mi M 29) (mi M 30)) {x y : Int32} (hj : cpJ t x y = false) : mR (d + 1) mModel_wish [.ref 28, .int x, .int y] M (some (.int (bI false))) (wI M 28 (va_up (mi M 28) 0 (nI 0))) := by
  have k28 : mKd M 28 = (6, 27) := hO.k 28
  have kf : mKd M 29 = (10, 8) := hO.k 29
  have kg : mKd M 30 = (10, 8) := hO.k 30
  have rf : mr M 28 1 = some 29 := hO.r 28 1 29
  have rg : mr M 28 2 = some 30 := hO.r 28 2 30
  show mP (d + 1) mModel_wish 0 [.ref 28, .int x, .int y] [] M _
  (repeat (first | refine mP_go rfl rfl ?_ | ((show mP _ _ _ _ (Value.ref _ :: _) _ _); first | refine mP_getIv rfl (by assumption) (by assumption) ?_ | refine mP_getI rfl (by assumption) ?_ | refine mP_getR rfl (by assumption) (by assumption) ?_ | refine mP_getLv rfl (by assumption) (by assumption) ?_ | refine mP_getL rfl (by assumption) ?_) | ((show mP _ _ _ _ (_ :: Value.ref _ :: _) _ _); first | refine mP_putI rfl (by assumption) ?_ | refine mP_putL rfl (by assumption) ?_)); (try dsimp only))
  by_cases hxy : x = y
  · refine mP_cmpT rfl (decide_eq_true hxy) ?_
    (repeat (first | refine mP_go rfl rfl ?_ | ((show mP _ _ _ _ (Value.ref _ :: _) _ _); first | refine mP_getIv rfl (by assumption) (by assumption) ?_ | refine mP_getI rfl (by assumption) ?_ | refine mP_getR rfl (by assumption) (by assumption) ?_ | refine mP_getLv rfl (by assumption) (by assumption) ?_ | refine mP_getL rfl (by assumption) ?_) | ((show mP _ _ _ _ (_ :: Value.ref _ :: _) _ _); first | refine mP_putI rfl (by assumption) ?_ | refine mP_putL rfl (by assumption) ?_)); (try dsimp only))
    exact mP_ret rfl rfl ⟨rfl, rfl⟩
  · refine mP_cmpF rfl (decide_eq_false hxy) ?_
    (repeat (first | refine mP_go rfl rfl ?_ | ((show mP _ _ _ _ (Value.ref _ :: _) _ _); first | refine mP_getIv rfl (by assumption) (by assumption) ?_ | refine mP_getI rfl (by assumption) ?_ | refine mP_getR rfl (by assumption) (by assumption) ?_ | refine mP_getLv rfl (by assumption) (by assumption) ?_ | refine mP_getL rfl (by assumption) ?_) | ((show mP _ _ _ _ (_ :: Value.ref _ :: _) _ _); first | refine mP_putI rfl (by assumption) ?_ | refine mP_putL rfl (by assumption) ?_)); (try dsimp only))
    refine mP_S rfl rfl rfl (sp_within x (nI 0) (nI 15)) ?_
    rcases x_cases x (n := 16) (by decide) with hx | hx | ⟨i, hi, rfl⟩
    · rw [wi_out (by decide) (Or.inl hx)]
      refine mP_ifT rfl rfl ?_
      (repeat (first | refine mP_go rfl rfl ?_ | ((show mP _ _ _ _ (Value.ref _ :: _) _ _); first | refine mP_getIv rfl (by assumption) (by assumption) ?_ | refine mP_getI rfl (by assumption) ?_ | refine mP_getR rfl (by assumption) (by assumption) ?_ | refine mP_getLv rfl (by assumption) (by assumption) ?_ | refine mP_getL rfl (by assumption) ?_) | ((show mP _ _ _ _ (_ :: Value.ref _ :: _) _ _); first | refine mP_putI rfl (by assumption) ?_ | refine mP_putL rfl (by assumption) ?_)); (try dsimp only))
      exact mP_ret rfl rfl ⟨rfl, rfl⟩
    · rw [wi_out (by decide) (Or.inr hx)]
      refine mP_ifT rfl rfl ?_
      (repeat (first | refine mP_go rfl rfl ?_ | ((show mP _ _ _ _ (Value.ref _ :: _) _ _); first | refine mP_getIv rfl (by assumption) (by assumption) ?_ | refine mP_getI rfl (by assumption) ?_ | refine mP_getR rfl (by assumption) (by assumption) ?_ | refine mP_getLv rfl (by assumption) (by assumption) ?_ | refine mP_getL rfl (by assumption) ?_) | ((show mP _ _ _ _ (_ :: Value.ref _ :: _) _ _); first | refine mP_putI rfl (by assumption) ?_ | refine mP_putL rfl (by assumption) ?_)); (try dsimp only))
      exact mP_ret rfl rfl ⟨rfl, rfl⟩
    · rw [wi_in (by omega) (by omega) (by decide)]
      refine mP_ifF rfl rfl ?_
      (repeat (first | refine mP_go rfl rfl ?_ | ((show mP _ _ _ _ (Value.ref _ :: _) _ _); first | refine mP_getIv rfl (by assumption) (by assumption) ?_ | refine mP_getI rfl (by assumption) ?_ | refine mP_getR rfl (by assumption) (by assumption) ?_ | refine mP_getLv rfl (by assumption) (by assumption) ?_ | refine mP_getL rfl (by assumption) ?_) | ((show mP _ _ _ _ (_ :: Value.ref _ :: _) _ _); first | refine mP_putI rfl (by assumption) ?_ | refine mP_putL rfl (by assumption) ?_)); (try dsimp only))
      refine mP_S rfl rfl rfl (sp_within y (nI 0) (nI 15)) ?_
      rcases x_cases y (n := 16) (by decide) with hy | hy | ⟨j, hj2, rfl⟩
      · rw [wi_out (by decide) (Or.inl hy)]
        refine mP_ifF rfl rfl ?_
        (repeat (first | refine mP_go rfl rfl ?_ | ((show mP _ _ _ _ (Value.ref _ :: _) _ _); first | refine mP_getIv rfl (by assumption) (by assumption) ?_ | refine mP_getI rfl (by assumption) ?_ | refine mP_getR rfl (by assumption) (by assumption) ?_ | refine mP_getLv rfl (by assumption) (by assumption) ?_ | refine mP_getL rfl (by assumption) ?_) | ((show mP _ _ _ _ (_ :: Value.ref _ :: _) _ _); first | refine mP_putI rfl (by assumption) ?_ | refine mP_putL rfl (by assumption) ?_)); (try dsimp only))
        exact mP_ret rfl rfl ⟨rfl, rfl⟩
      · rw [wi_out (by decide) (Or.inr hy)]
        refine mP_ifF rfl rfl ?_
        (repeat (first | refine mP_go rfl rfl ?_ | ((show mP _ _ _ _ (Value.ref _ :: _) _ _); first | refine mP_getIv rfl (by assumption) (by assumption) ?_ | refine mP_getI rfl (by assumption) ?_ | refine mP_getR rfl (by assumption) (by assumption) ?_ | refine mP_getLv rfl (by assumption) (by assumption) ?_ | refine mP_getL rfl (by assumption) ?_) | ((show mP _ _ _ _ (_ :: Value.ref _ :: _) _ _); first | refine mP_putI rfl (by assumption) ?_ | refine mP_putL rfl (by assumption) ?_)); (try dsimp only))
        exact mP_ret rfl rfl ⟨rfl, rfl⟩
      · rw [wi_in (by omega) (by omega) (by decide)]
        refine mP_ifT rfl rfl ?_
        (repeat (first | refine mP_go rfl rfl ?_ | ((show mP _ _ _ _ (Value.ref _ :: _) _ _); first | refine mP_getIv rfl (by assumption) (by assumption) ?_ | refine mP_getI rfl (by assumption) ?_ | refine mP_getR rfl (by assumption) (by assumption) ?_ | refine mP_getLv rfl (by assumption) (by assumption) ?_ | refine mP_getL rfl (by assumption) ?_) | ((show mP _ _ _ _ (_ :: Value.ref _ :: _) _ _); first | refine mP_putI rfl (by assumption) ?_ | refine mP_putL rfl (by assumption) ?_)); (try dsimp only))
        simp only [mi_wI, if_true]
        rw [mU_ne (show (3 : Nat) ≠ 0 by decide), hR.1]
        (repeat (first | refine mP_go rfl rfl ?_ | ((show mP _ _ _ _ (Value.ref _ :: _) _ _); first | refine mP_getIv rfl (by assumption) (by assumption) ?_ | refine mP_getI rfl (by assumption) ?_ | refine mP_getR rfl (by assumption) (by assumption) ?_ | refine mP_getLv rfl (by assumption) (by assumption) ?_ | refine mP_getL rfl (by assumption) ?_) | ((show mP _ _ _ _ (_ :: Value.ref _ :: _) _ _); first | refine mP_putI rfl (by assumption) ?_ | refine mP_putL rfl (by assumption) ?_)); (try dsimp only))
        refine mP_S rfl rfl rfl (sp_has (M := wI M 28 (va_up (mi M 28) 0 (iI 0))) kf kg hC hR.2 hi) ?_
        cases hb : t.testBit i with
        | true =>
          refine mP_ifT rfl rfl ?_
          (repeat (first | refine mP_go rfl rfl ?_ | ((show mP _ _ _ _ (Value.ref _ :: _) _ _); first | refine mP_getIv rfl (by assumption) (by assumption) ?_ | refine mP_getI rfl (by assumption) ?_ | refine mP_getR rfl (by assumption) (by assumption) ?_ | refine mP_getLv rfl (by assumption) (by assumption) ?_ | refine mP_getL rfl (by assumption) ?_) | ((show mP _ _ _ _ (_ :: Value.ref _ :: _) _ _); first | refine mP_putI rfl (by assumption) ?_ | refine mP_putL rfl (by assumption) ?_)); (try dsimp only))
          exact mP_ret rfl rfl ⟨rfl, rfl⟩
        | false =>
          refine mP_ifF rfl rfl ?_
          (repeat (first | refine mP_go rfl rfl ?_ | ((show mP _ _ _ _ (Value.ref _ :: _) _ _); first | refine mP_getIv rfl (by assumption) (by assumption) ?_ | refine mP_getI rfl (by assumption) ?_ | refine mP_getR rfl (by assumption) (by assumption) ?_ | refine mP_getLv rfl (by assumption) (by assumption) ?_ | refine mP_getL rfl (by assumption) ?_) | ((show mP _ _ _ _ (_ :: Value.ref _ :: _) _ _); first | refine mP_putI rfl (by assumption) ?_ | refine mP_putL rfl (by assumption) ?_)); (try dsimp only))
          simp only [mi_wI, if_true]
          rw [mU_ne (show (3 : Nat) ≠ 0 by decide), hR.1]
          (repeat (first | refine mP_go rfl rfl ?_ | ((show mP _ _ _ _ (Value.ref _ :: _) _ _); first | refine mP_getIv rfl (by assumption) (by assumption) ?_ | refine mP_getI rfl (by assumption) ?_ | refine mP_getR rfl (by assumption) (by assumption) ?_ | refine mP_getLv rfl (by assumption) (by assumption) ?_ | refine mP_getL rfl (by assumption) ?_) | ((show mP _ _ _ _ (_ :: Value.ref _ :: _) _ _); first | refine mP_putI rfl (by assumption) ?_ | refine mP_putL rfl (by assumption) ?_)); (try dsimp only))
          refine mP_S rfl rfl rfl (sp_has (M := wI M 28 (va_up (mi M 28) 0 (iI 0))) kf kg hC hR.2 hj2) ?_
          cases hb2 : t.testBit j with
          | true =>
            refine mP_ifF rfl rfl ?_
            (repeat (first | refine mP_go rfl rfl ?_ | ((show mP _ _ _ _ (Value.ref _ :: _) _ _); first | refine mP_getIv rfl (by assumption) (by assumption) ?_ | refine mP_getI rfl (by assumption) ?_ | refine mP_getR rfl (by assumption) (by assumption) ?_ | refine mP_getLv rfl (by assumption) (by assumption) ?_ | refine mP_getL rfl (by assumption) ?_) | ((show mP _ _ _ _ (_ :: Value.ref _ :: _) _ _); first | refine mP_putI rfl (by assumption) ?_ | refine mP_putL rfl (by assumption) ?_)); (try dsimp only))
            exact mP_ret rfl rfl ⟨rfl, rfl⟩
          | false =>
            exfalso
            simp [cpJ, hxy, sgl_of hi, sgl_of hj2, hb, hb2] at hj
def mpW_wish (M : mM) (n x y : Nat) : mM := wI (wI (wI M 29 (va_up (mi M 29) n (nI x))) 30 (va_up (mi M 30) n (nI y))) 28 (va_up (va_up (mi M 28) 0 (nI 0)) 3 (nI (n + 1)))
theorem sp_mwish_yes {d : Nat} {M : mM} {n t : Nat} {F G : Nat → Nat} (hO : mOK M) (hC : cpA n t F G) (hR : mpR n F G (mi M 28 3) (mi M 29) (mi M 30)) {x y : Nat} (hx : x < 16) (hy : y < 16) (hxy : x ≠ y) (bx : t.testBit x = false) (by_ : t.testBit y = false) : mR (d + 1) mModel_wish [.ref 28, .int (nI x), .int (nI y)] M (some (.int (bI true))) (mpW_wish M n x y) := by
  have k28 : mKd M 28 = (6, 27) := hO.k 28
  have kf : mKd M 29 = (10, 8) := hO.k 29
  have kg : mKd M 30 = (10, 8) := hO.k 30
  have rf : mr M 28 1 = some 29 := hO.r 28 1 29
  have rg : mr M 28 2 = some 30 := hO.r 28 2 30
  have hn := (hC.add hx hy hxy bx by_).2
  show mP (d + 1) mModel_wish 0 [.ref 28, .int (nI x), .int (nI y)] [] M _
  (repeat (first | refine mP_go rfl rfl ?_ | ((show mP _ _ _ _ (Value.ref _ :: _) _ _); first | refine mP_getIv rfl (by assumption) (by assumption) ?_ | refine mP_getI rfl (by assumption) ?_ | refine mP_getR rfl (by assumption) (by assumption) ?_ | refine mP_getLv rfl (by assumption) (by assumption) ?_ | refine mP_getL rfl (by assumption) ?_) | ((show mP _ _ _ _ (_ :: Value.ref _ :: _) _ _); first | refine mP_putI rfl (by assumption) ?_ | refine mP_putL rfl (by assumption) ?_)); (try dsimp only))
  refine mP_cmpF rfl (decide_eq_false (fun q => hxy ((nI_inj (by omega) (by omega)).mp q))) ?_
  (repeat (first | refine mP_go rfl rfl ?_ | ((show mP _ _ _ _ (Value.ref _ :: _) _ _); first | refine mP_getIv rfl (by assumption) (by assumption) ?_ | refine mP_getI rfl (by assumption) ?_ | refine mP_getR rfl (by assumption) (by assumption) ?_ | refine mP_getLv rfl (by assumption) (by assumption) ?_ | refine mP_getL rfl (by assumption) ?_) | ((show mP _ _ _ _ (_ :: Value.ref _ :: _) _ _); first | refine mP_putI rfl (by assumption) ?_ | refine mP_putL rfl (by assumption) ?_)); (try dsimp only))
  refine mP_S rfl rfl rfl (sp_within _ (nI 0) (nI 15)) ?_
  rw [wi_in (by omega) (by omega) (by decide)]
  refine mP_ifF rfl rfl ?_
  (repeat (first | refine mP_go rfl rfl ?_ | ((show mP _ _ _ _ (Value.ref _ :: _) _ _); first | refine mP_getIv rfl (by assumption) (by assumption) ?_ | refine mP_getI rfl (by assumption) ?_ | refine mP_getR rfl (by assumption) (by assumption) ?_ | refine mP_getLv rfl (by assumption) (by assumption) ?_ | refine mP_getL rfl (by assumption) ?_) | ((show mP _ _ _ _ (_ :: Value.ref _ :: _) _ _); first | refine mP_putI rfl (by assumption) ?_ | refine mP_putL rfl (by assumption) ?_)); (try dsimp only))
  refine mP_S rfl rfl rfl (sp_within _ (nI 0) (nI 15)) ?_
  rw [wi_in (by omega) (by omega) (by decide)]
  refine mP_ifT rfl rfl ?_
  (repeat (first | refine mP_go rfl rfl ?_ | ((show mP _ _ _ _ (Value.ref _ :: _) _ _); first | refine mP_getIv rfl (by assumption) (by assumption) ?_ | refine mP_getI rfl (by assumption) ?_ | refine mP_getR rfl (by assumption) (by assumption) ?_ | refine mP_getLv rfl (by assumption) (by assumption) ?_ | refine mP_getL rfl (by assumption) ?_) | ((show mP _ _ _ _ (_ :: Value.ref _ :: _) _ _); first | refine mP_putI rfl (by assumption) ?_ | refine mP_putL rfl (by assumption) ?_)); (try dsimp only))
  simp only [mi_wI, if_true]
  rw [mU_ne (show (3 : Nat) ≠ 0 by decide), hR.1]
  (repeat (first | refine mP_go rfl rfl ?_ | ((show mP _ _ _ _ (Value.ref _ :: _) _ _); first | refine mP_getIv rfl (by assumption) (by assumption) ?_ | refine mP_getI rfl (by assumption) ?_ | refine mP_getR rfl (by assumption) (by assumption) ?_ | refine mP_getLv rfl (by assumption) (by assumption) ?_ | refine mP_getL rfl (by assumption) ?_) | ((show mP _ _ _ _ (_ :: Value.ref _ :: _) _ _); first | refine mP_putI rfl (by assumption) ?_ | refine mP_putL rfl (by assumption) ?_)); (try dsimp only))
  refine mP_S rfl rfl rfl (sp_has (M := wI M 28 (va_up (mi M 28) 0 (iI 0))) kf kg hC hR.2 hx) ?_
  rw [bx]
  refine mP_ifF rfl rfl ?_
  (repeat (first | refine mP_go rfl rfl ?_ | ((show mP _ _ _ _ (Value.ref _ :: _) _ _); first | refine mP_getIv rfl (by assumption) (by assumption) ?_ | refine mP_getI rfl (by assumption) ?_ | refine mP_getR rfl (by assumption) (by assumption) ?_ | refine mP_getLv rfl (by assumption) (by assumption) ?_ | refine mP_getL rfl (by assumption) ?_) | ((show mP _ _ _ _ (_ :: Value.ref _ :: _) _ _); first | refine mP_putI rfl (by assumption) ?_ | refine mP_putL rfl (by assumption) ?_)); (try dsimp only))
  simp only [mi_wI, if_true]
  rw [mU_ne (show (3 : Nat) ≠ 0 by decide), hR.1]
  (repeat (first | refine mP_go rfl rfl ?_ | ((show mP _ _ _ _ (Value.ref _ :: _) _ _); first | refine mP_getIv rfl (by assumption) (by assumption) ?_ | refine mP_getI rfl (by assumption) ?_ | refine mP_getR rfl (by assumption) (by assumption) ?_ | refine mP_getLv rfl (by assumption) (by assumption) ?_ | refine mP_getL rfl (by assumption) ?_) | ((show mP _ _ _ _ (_ :: Value.ref _ :: _) _ _); first | refine mP_putI rfl (by assumption) ?_ | refine mP_putL rfl (by assumption) ?_)); (try dsimp only))
  refine mP_S rfl rfl rfl (sp_has (M := wI M 28 (va_up (mi M 28) 0 (iI 0))) kf kg hC hR.2 hy) ?_
  rw [by_]
  refine mP_ifT rfl rfl ?_
  (repeat (first | refine mP_go rfl rfl ?_ | ((show mP _ _ _ _ (Value.ref _ :: _) _ _); first | refine mP_getIv rfl (by assumption) (by assumption) ?_ | refine mP_getI rfl (by assumption) ?_ | refine mP_getR rfl (by assumption) (by assumption) ?_ | refine mP_getLv rfl (by assumption) (by assumption) ?_ | refine mP_getL rfl (by assumption) ?_) | ((show mP _ _ _ _ (_ :: Value.ref _ :: _) _ _); first | refine mP_putI rfl (by assumption) ?_ | refine mP_putL rfl (by assumption) ?_)); (try dsimp only))
  simp only [mi_wI, if_true]
  rw [mU_ne (show (3 : Nat) ≠ 0 by decide), hR.1]
  (repeat (first | refine mP_go rfl rfl ?_ | ((show mP _ _ _ _ (Value.ref _ :: _) _ _); first | refine mP_getIv rfl (by assumption) (by assumption) ?_ | refine mP_getI rfl (by assumption) ?_ | refine mP_getR rfl (by assumption) (by assumption) ?_ | refine mP_getLv rfl (by assumption) (by assumption) ?_ | refine mP_getL rfl (by assumption) ?_) | ((show mP _ _ _ _ (_ :: Value.ref _ :: _) _ _); first | refine mP_putI rfl (by assumption) ?_ | refine mP_putL rfl (by assumption) ?_)); (try dsimp only))
  refine mP_iast rfl kf (j := n) hn (by decide) ?_
  (repeat (first | refine mP_go rfl rfl ?_ | ((show mP _ _ _ _ (Value.ref _ :: _) _ _); first | refine mP_getIv rfl (by assumption) (by assumption) ?_ | refine mP_getI rfl (by assumption) ?_ | refine mP_getR rfl (by assumption) (by assumption) ?_ | refine mP_getLv rfl (by assumption) (by assumption) ?_ | refine mP_getL rfl (by assumption) ?_) | ((show mP _ _ _ _ (_ :: Value.ref _ :: _) _ _); first | refine mP_putI rfl (by assumption) ?_ | refine mP_putL rfl (by assumption) ?_)); (try dsimp only))
  simp only [mi_wI, if_true, show ¬ (28 : Nat) = 29 by decide, show ¬ (29 : Nat) = 28 by decide, if_false]
  rw [mU_ne (show (3 : Nat) ≠ 0 by decide), hR.1]
  (repeat (first | refine mP_go rfl rfl ?_ | ((show mP _ _ _ _ (Value.ref _ :: _) _ _); first | refine mP_getIv rfl (by assumption) (by assumption) ?_ | refine mP_getI rfl (by assumption) ?_ | refine mP_getR rfl (by assumption) (by assumption) ?_ | refine mP_getLv rfl (by assumption) (by assumption) ?_ | refine mP_getL rfl (by assumption) ?_) | ((show mP _ _ _ _ (_ :: Value.ref _ :: _) _ _); first | refine mP_putI rfl (by assumption) ?_ | refine mP_putL rfl (by assumption) ?_)); (try dsimp only))
  refine mP_iast rfl kg (j := n) hn (by decide) ?_
  (repeat (first | refine mP_go rfl rfl ?_ | ((show mP _ _ _ _ (Value.ref _ :: _) _ _); first | refine mP_getIv rfl (by assumption) (by assumption) ?_ | refine mP_getI rfl (by assumption) ?_ | refine mP_getR rfl (by assumption) (by assumption) ?_ | refine mP_getLv rfl (by assumption) (by assumption) ?_ | refine mP_getL rfl (by assumption) ?_) | ((show mP _ _ _ _ (_ :: Value.ref _ :: _) _ _); first | refine mP_putI rfl (by assumption) ?_ | refine mP_putL rfl (by assumption) ?_)); (try dsimp only))
  simp only [mi_wI, if_true, show ¬ (28 : Nat) = 29 by decide, show ¬ (29 : Nat) = 28 by decide, show ¬ (28 : Nat) = 30 by decide, show ¬ (30 : Nat) = 28 by decide, show ¬ (30 : Nat) = 29 by decide, if_false]
  rw [mU_ne (show (3 : Nat) ≠ 0 by decide), hR.1]
  (repeat (first | refine mP_go rfl rfl ?_ | ((show mP _ _ _ _ (Value.ref _ :: _) _ _); first | refine mP_getIv rfl (by assumption) (by assumption) ?_ | refine mP_getI rfl (by assumption) ?_ | refine mP_getR rfl (by assumption) (by assumption) ?_ | refine mP_getLv rfl (by assumption) (by assumption) ?_ | refine mP_getL rfl (by assumption) ?_) | ((show mP _ _ _ _ (_ :: Value.ref _ :: _) _ _); first | refine mP_putI rfl (by assumption) ?_ | refine mP_putL rfl (by assumption) ?_)); (try dsimp only))
  refine mP_ret rfl rfl ⟨rfl, ?_⟩
  unfold mpW_wish
  rw [nI_inc]
  rw [wI_comm M 28 29 _ _ (by decide), wI_comm _ 28 30 _ _ (by decide), wI_wI]
  rfl

theorem sp_mtwins_no {d : Nat} {M : mM} {n t : Nat} {F G : Nat → Nat} (hO : mOK M) (hC : cpA n t F G) (hR : mpR n F G (mi M 28 6) (mi M 31) (mi M 32)) {x y : Int32} (hj : cpJ t x y = false) : mR (d + 1) mModel_twins [.ref 28, .int x, .int y] M (some (.int (bI false))) (wI M 28 (va_up (mi M 28) 0 (nI 0))) := by
  have k28 : mKd M 28 = (6, 27) := hO.k 28
  have kf : mKd M 31 = (10, 8) := hO.k 31
  have kg : mKd M 32 = (10, 8) := hO.k 32
  have rf : mr M 28 4 = some 31 := hO.r 28 4 31
  have rg : mr M 28 5 = some 32 := hO.r 28 5 32
  show mP (d + 1) mModel_twins 0 [.ref 28, .int x, .int y] [] M _
  (repeat (first | refine mP_go rfl rfl ?_ | ((show mP _ _ _ _ (Value.ref _ :: _) _ _); first | refine mP_getIv rfl (by assumption) (by assumption) ?_ | refine mP_getI rfl (by assumption) ?_ | refine mP_getR rfl (by assumption) (by assumption) ?_ | refine mP_getLv rfl (by assumption) (by assumption) ?_ | refine mP_getL rfl (by assumption) ?_) | ((show mP _ _ _ _ (_ :: Value.ref _ :: _) _ _); first | refine mP_putI rfl (by assumption) ?_ | refine mP_putL rfl (by assumption) ?_)); (try dsimp only))
  by_cases hxy : x = y
  · refine mP_cmpT rfl (decide_eq_true hxy) ?_
    (repeat (first | refine mP_go rfl rfl ?_ | ((show mP _ _ _ _ (Value.ref _ :: _) _ _); first | refine mP_getIv rfl (by assumption) (by assumption) ?_ | refine mP_getI rfl (by assumption) ?_ | refine mP_getR rfl (by assumption) (by assumption) ?_ | refine mP_getLv rfl (by assumption) (by assumption) ?_ | refine mP_getL rfl (by assumption) ?_) | ((show mP _ _ _ _ (_ :: Value.ref _ :: _) _ _); first | refine mP_putI rfl (by assumption) ?_ | refine mP_putL rfl (by assumption) ?_)); (try dsimp only))
    exact mP_ret rfl rfl ⟨rfl, rfl⟩
  · refine mP_cmpF rfl (decide_eq_false hxy) ?_
    (repeat (first | refine mP_go rfl rfl ?_ | ((show mP _ _ _ _ (Value.ref _ :: _) _ _); first | refine mP_getIv rfl (by assumption) (by assumption) ?_ | refine mP_getI rfl (by assumption) ?_ | refine mP_getR rfl (by assumption) (by assumption) ?_ | refine mP_getLv rfl (by assumption) (by assumption) ?_ | refine mP_getL rfl (by assumption) ?_) | ((show mP _ _ _ _ (_ :: Value.ref _ :: _) _ _); first | refine mP_putI rfl (by assumption) ?_ | refine mP_putL rfl (by assumption) ?_)); (try dsimp only))
    refine mP_S rfl rfl rfl (sp_within x (nI 0) (nI 15)) ?_
    rcases x_cases x (n := 16) (by decide) with hx | hx | ⟨i, hi, rfl⟩
    · rw [wi_out (by decide) (Or.inl hx)]
      refine mP_ifT rfl rfl ?_
      (repeat (first | refine mP_go rfl rfl ?_ | ((show mP _ _ _ _ (Value.ref _ :: _) _ _); first | refine mP_getIv rfl (by assumption) (by assumption) ?_ | refine mP_getI rfl (by assumption) ?_ | refine mP_getR rfl (by assumption) (by assumption) ?_ | refine mP_getLv rfl (by assumption) (by assumption) ?_ | refine mP_getL rfl (by assumption) ?_) | ((show mP _ _ _ _ (_ :: Value.ref _ :: _) _ _); first | refine mP_putI rfl (by assumption) ?_ | refine mP_putL rfl (by assumption) ?_)); (try dsimp only))
      exact mP_ret rfl rfl ⟨rfl, rfl⟩
    · rw [wi_out (by decide) (Or.inr hx)]
      refine mP_ifT rfl rfl ?_
      (repeat (first | refine mP_go rfl rfl ?_ | ((show mP _ _ _ _ (Value.ref _ :: _) _ _); first | refine mP_getIv rfl (by assumption) (by assumption) ?_ | refine mP_getI rfl (by assumption) ?_ | refine mP_getR rfl (by assumption) (by assumption) ?_ | refine mP_getLv rfl (by assumption) (by assumption) ?_ | refine mP_getL rfl (by assumption) ?_) | ((show mP _ _ _ _ (_ :: Value.ref _ :: _) _ _); first | refine mP_putI rfl (by assumption) ?_ | refine mP_putL rfl (by assumption) ?_)); (try dsimp only))
      exact mP_ret rfl rfl ⟨rfl, rfl⟩
    · rw [wi_in (by omega) (by omega) (by decide)]
      refine mP_ifF rfl rfl ?_
      (repeat (first | refine mP_go rfl rfl ?_ | ((show mP _ _ _ _ (Value.ref _ :: _) _ _); first | refine mP_getIv rfl (by assumption) (by assumption) ?_ | refine mP_getI rfl (by assumption) ?_ | refine mP_getR rfl (by assumption) (by assumption) ?_ | refine mP_getLv rfl (by assumption) (by assumption) ?_ | refine mP_getL rfl (by assumption) ?_) | ((show mP _ _ _ _ (_ :: Value.ref _ :: _) _ _); first | refine mP_putI rfl (by assumption) ?_ | refine mP_putL rfl (by assumption) ?_)); (try dsimp only))
      refine mP_S rfl rfl rfl (sp_within y (nI 0) (nI 15)) ?_
      rcases x_cases y (n := 16) (by decide) with hy | hy | ⟨j, hj2, rfl⟩
      · rw [wi_out (by decide) (Or.inl hy)]
        refine mP_ifF rfl rfl ?_
        (repeat (first | refine mP_go rfl rfl ?_ | ((show mP _ _ _ _ (Value.ref _ :: _) _ _); first | refine mP_getIv rfl (by assumption) (by assumption) ?_ | refine mP_getI rfl (by assumption) ?_ | refine mP_getR rfl (by assumption) (by assumption) ?_ | refine mP_getLv rfl (by assumption) (by assumption) ?_ | refine mP_getL rfl (by assumption) ?_) | ((show mP _ _ _ _ (_ :: Value.ref _ :: _) _ _); first | refine mP_putI rfl (by assumption) ?_ | refine mP_putL rfl (by assumption) ?_)); (try dsimp only))
        exact mP_ret rfl rfl ⟨rfl, rfl⟩
      · rw [wi_out (by decide) (Or.inr hy)]
        refine mP_ifF rfl rfl ?_
        (repeat (first | refine mP_go rfl rfl ?_ | ((show mP _ _ _ _ (Value.ref _ :: _) _ _); first | refine mP_getIv rfl (by assumption) (by assumption) ?_ | refine mP_getI rfl (by assumption) ?_ | refine mP_getR rfl (by assumption) (by assumption) ?_ | refine mP_getLv rfl (by assumption) (by assumption) ?_ | refine mP_getL rfl (by assumption) ?_) | ((show mP _ _ _ _ (_ :: Value.ref _ :: _) _ _); first | refine mP_putI rfl (by assumption) ?_ | refine mP_putL rfl (by assumption) ?_)); (try dsimp only))
        exact mP_ret rfl rfl ⟨rfl, rfl⟩
      · rw [wi_in (by omega) (by omega) (by decide)]
        refine mP_ifT rfl rfl ?_
        (repeat (first | refine mP_go rfl rfl ?_ | ((show mP _ _ _ _ (Value.ref _ :: _) _ _); first | refine mP_getIv rfl (by assumption) (by assumption) ?_ | refine mP_getI rfl (by assumption) ?_ | refine mP_getR rfl (by assumption) (by assumption) ?_ | refine mP_getLv rfl (by assumption) (by assumption) ?_ | refine mP_getL rfl (by assumption) ?_) | ((show mP _ _ _ _ (_ :: Value.ref _ :: _) _ _); first | refine mP_putI rfl (by assumption) ?_ | refine mP_putL rfl (by assumption) ?_)); (try dsimp only))
        simp only [mi_wI, if_true]
        rw [mU_ne (show (6 : Nat) ≠ 0 by decide), hR.1]
        (repeat (first | refine mP_go rfl rfl ?_ | ((show mP _ _ _ _ (Value.ref _ :: _) _ _); first | refine mP_getIv rfl (by assumption) (by assumption) ?_ | refine mP_getI rfl (by assumption) ?_ | refine mP_getR rfl (by assumption) (by assumption) ?_ | refine mP_getLv rfl (by assumption) (by assumption) ?_ | refine mP_getL rfl (by assumption) ?_) | ((show mP _ _ _ _ (_ :: Value.ref _ :: _) _ _); first | refine mP_putI rfl (by assumption) ?_ | refine mP_putL rfl (by assumption) ?_)); (try dsimp only))
        refine mP_S rfl rfl rfl (sp_has (M := wI M 28 (va_up (mi M 28) 0 (iI 0))) kf kg hC hR.2 hi) ?_
        cases hb : t.testBit i with
        | true =>
          refine mP_ifT rfl rfl ?_
          (repeat (first | refine mP_go rfl rfl ?_ | ((show mP _ _ _ _ (Value.ref _ :: _) _ _); first | refine mP_getIv rfl (by assumption) (by assumption) ?_ | refine mP_getI rfl (by assumption) ?_ | refine mP_getR rfl (by assumption) (by assumption) ?_ | refine mP_getLv rfl (by assumption) (by assumption) ?_ | refine mP_getL rfl (by assumption) ?_) | ((show mP _ _ _ _ (_ :: Value.ref _ :: _) _ _); first | refine mP_putI rfl (by assumption) ?_ | refine mP_putL rfl (by assumption) ?_)); (try dsimp only))
          exact mP_ret rfl rfl ⟨rfl, rfl⟩
        | false =>
          refine mP_ifF rfl rfl ?_
          (repeat (first | refine mP_go rfl rfl ?_ | ((show mP _ _ _ _ (Value.ref _ :: _) _ _); first | refine mP_getIv rfl (by assumption) (by assumption) ?_ | refine mP_getI rfl (by assumption) ?_ | refine mP_getR rfl (by assumption) (by assumption) ?_ | refine mP_getLv rfl (by assumption) (by assumption) ?_ | refine mP_getL rfl (by assumption) ?_) | ((show mP _ _ _ _ (_ :: Value.ref _ :: _) _ _); first | refine mP_putI rfl (by assumption) ?_ | refine mP_putL rfl (by assumption) ?_)); (try dsimp only))
          simp only [mi_wI, if_true]
          rw [mU_ne (show (6 : Nat) ≠ 0 by decide), hR.1]
          (repeat (first | refine mP_go rfl rfl ?_ | ((show mP _ _ _ _ (Value.ref _ :: _) _ _); first | refine mP_getIv rfl (by assumption) (by assumption) ?_ | refine mP_getI rfl (by assumption) ?_ | refine mP_getR rfl (by assumption) (by assumption) ?_ | refine mP_getLv rfl (by assumption) (by assumption) ?_ | refine mP_getL rfl (by assumption) ?_) | ((show mP _ _ _ _ (_ :: Value.ref _ :: _) _ _); first | refine mP_putI rfl (by assumption) ?_ | refine mP_putL rfl (by assumption) ?_)); (try dsimp only))
          refine mP_S rfl rfl rfl (sp_has (M := wI M 28 (va_up (mi M 28) 0 (iI 0))) kf kg hC hR.2 hj2) ?_
          cases hb2 : t.testBit j with
          | true =>
            refine mP_ifF rfl rfl ?_
            (repeat (first | refine mP_go rfl rfl ?_ | ((show mP _ _ _ _ (Value.ref _ :: _) _ _); first | refine mP_getIv rfl (by assumption) (by assumption) ?_ | refine mP_getI rfl (by assumption) ?_ | refine mP_getR rfl (by assumption) (by assumption) ?_ | refine mP_getLv rfl (by assumption) (by assumption) ?_ | refine mP_getL rfl (by assumption) ?_) | ((show mP _ _ _ _ (_ :: Value.ref _ :: _) _ _); first | refine mP_putI rfl (by assumption) ?_ | refine mP_putL rfl (by assumption) ?_)); (try dsimp only))
            exact mP_ret rfl rfl ⟨rfl, rfl⟩
          | false =>
            exfalso
            simp [cpJ, hxy, sgl_of hi, sgl_of hj2, hb, hb2] at hj
def mpW_twins (M : mM) (n x y : Nat) : mM := wI (wI (wI M 31 (va_up (mi M 31) n (nI x))) 32 (va_up (mi M 32) n (nI y))) 28 (va_up (va_up (mi M 28) 0 (nI 0)) 6 (nI (n + 1)))
theorem sp_mtwins_yes {d : Nat} {M : mM} {n t : Nat} {F G : Nat → Nat} (hO : mOK M) (hC : cpA n t F G) (hR : mpR n F G (mi M 28 6) (mi M 31) (mi M 32)) {x y : Nat} (hx : x < 16) (hy : y < 16) (hxy : x ≠ y) (bx : t.testBit x = false) (by_ : t.testBit y = false) : mR (d + 1) mModel_twins [.ref 28, .int (nI x), .int (nI y)] M (some (.int (bI true))) (mpW_twins M n x y) := by
  have k28 : mKd M 28 = (6, 27) := hO.k 28
  have kf : mKd M 31 = (10, 8) := hO.k 31
  have kg : mKd M 32 = (10, 8) := hO.k 32
  have rf : mr M 28 4 = some 31 := hO.r 28 4 31
  have rg : mr M 28 5 = some 32 := hO.r 28 5 32
  have hn := (hC.add hx hy hxy bx by_).2
  show mP (d + 1) mModel_twins 0 [.ref 28, .int (nI x), .int (nI y)] [] M _
  (repeat (first | refine mP_go rfl rfl ?_ | ((show mP _ _ _ _ (Value.ref _ :: _) _ _); first | refine mP_getIv rfl (by assumption) (by assumption) ?_ | refine mP_getI rfl (by assumption) ?_ | refine mP_getR rfl (by assumption) (by assumption) ?_ | refine mP_getLv rfl (by assumption) (by assumption) ?_ | refine mP_getL rfl (by assumption) ?_) | ((show mP _ _ _ _ (_ :: Value.ref _ :: _) _ _); first | refine mP_putI rfl (by assumption) ?_ | refine mP_putL rfl (by assumption) ?_)); (try dsimp only))
  refine mP_cmpF rfl (decide_eq_false (fun q => hxy ((nI_inj (by omega) (by omega)).mp q))) ?_
  (repeat (first | refine mP_go rfl rfl ?_ | ((show mP _ _ _ _ (Value.ref _ :: _) _ _); first | refine mP_getIv rfl (by assumption) (by assumption) ?_ | refine mP_getI rfl (by assumption) ?_ | refine mP_getR rfl (by assumption) (by assumption) ?_ | refine mP_getLv rfl (by assumption) (by assumption) ?_ | refine mP_getL rfl (by assumption) ?_) | ((show mP _ _ _ _ (_ :: Value.ref _ :: _) _ _); first | refine mP_putI rfl (by assumption) ?_ | refine mP_putL rfl (by assumption) ?_)); (try dsimp only))
  refine mP_S rfl rfl rfl (sp_within _ (nI 0) (nI 15)) ?_
  rw [wi_in (by omega) (by omega) (by decide)]
  refine mP_ifF rfl rfl ?_
  (repeat (first | refine mP_go rfl rfl ?_ | ((show mP _ _ _ _ (Value.ref _ :: _) _ _); first | refine mP_getIv rfl (by assumption) (by assumption) ?_ | refine mP_getI rfl (by assumption) ?_ | refine mP_getR rfl (by assumption) (by assumption) ?_ | refine mP_getLv rfl (by assumption) (by assumption) ?_ | refine mP_getL rfl (by assumption) ?_) | ((show mP _ _ _ _ (_ :: Value.ref _ :: _) _ _); first | refine mP_putI rfl (by assumption) ?_ | refine mP_putL rfl (by assumption) ?_)); (try dsimp only))
  refine mP_S rfl rfl rfl (sp_within _ (nI 0) (nI 15)) ?_
  rw [wi_in (by omega) (by omega) (by decide)]
  refine mP_ifT rfl rfl ?_
  (repeat (first | refine mP_go rfl rfl ?_ | ((show mP _ _ _ _ (Value.ref _ :: _) _ _); first | refine mP_getIv rfl (by assumption) (by assumption) ?_ | refine mP_getI rfl (by assumption) ?_ | refine mP_getR rfl (by assumption) (by assumption) ?_ | refine mP_getLv rfl (by assumption) (by assumption) ?_ | refine mP_getL rfl (by assumption) ?_) | ((show mP _ _ _ _ (_ :: Value.ref _ :: _) _ _); first | refine mP_putI rfl (by assumption) ?_ | refine mP_putL rfl (by assumption) ?_)); (try dsimp only))
  simp only [mi_wI, if_true]
  rw [mU_ne (show (6 : Nat) ≠ 0 by decide), hR.1]
  (repeat (first | refine mP_go rfl rfl ?_ | ((show mP _ _ _ _ (Value.ref _ :: _) _ _); first | refine mP_getIv rfl (by assumption) (by assumption) ?_ | refine mP_getI rfl (by assumption) ?_ | refine mP_getR rfl (by assumption) (by assumption) ?_ | refine mP_getLv rfl (by assumption) (by assumption) ?_ | refine mP_getL rfl (by assumption) ?_) | ((show mP _ _ _ _ (_ :: Value.ref _ :: _) _ _); first | refine mP_putI rfl (by assumption) ?_ | refine mP_putL rfl (by assumption) ?_)); (try dsimp only))
  refine mP_S rfl rfl rfl (sp_has (M := wI M 28 (va_up (mi M 28) 0 (iI 0))) kf kg hC hR.2 hx) ?_
  rw [bx]
  refine mP_ifF rfl rfl ?_
  (repeat (first | refine mP_go rfl rfl ?_ | ((show mP _ _ _ _ (Value.ref _ :: _) _ _); first | refine mP_getIv rfl (by assumption) (by assumption) ?_ | refine mP_getI rfl (by assumption) ?_ | refine mP_getR rfl (by assumption) (by assumption) ?_ | refine mP_getLv rfl (by assumption) (by assumption) ?_ | refine mP_getL rfl (by assumption) ?_) | ((show mP _ _ _ _ (_ :: Value.ref _ :: _) _ _); first | refine mP_putI rfl (by assumption) ?_ | refine mP_putL rfl (by assumption) ?_)); (try dsimp only))
  simp only [mi_wI, if_true]
  rw [mU_ne (show (6 : Nat) ≠ 0 by decide), hR.1]
  (repeat (first | refine mP_go rfl rfl ?_ | ((show mP _ _ _ _ (Value.ref _ :: _) _ _); first | refine mP_getIv rfl (by assumption) (by assumption) ?_ | refine mP_getI rfl (by assumption) ?_ | refine mP_getR rfl (by assumption) (by assumption) ?_ | refine mP_getLv rfl (by assumption) (by assumption) ?_ | refine mP_getL rfl (by assumption) ?_) | ((show mP _ _ _ _ (_ :: Value.ref _ :: _) _ _); first | refine mP_putI rfl (by assumption) ?_ | refine mP_putL rfl (by assumption) ?_)); (try dsimp only))
  refine mP_S rfl rfl rfl (sp_has (M := wI M 28 (va_up (mi M 28) 0 (iI 0))) kf kg hC hR.2 hy) ?_
  rw [by_]
  refine mP_ifT rfl rfl ?_
  (repeat (first | refine mP_go rfl rfl ?_ | ((show mP _ _ _ _ (Value.ref _ :: _) _ _); first | refine mP_getIv rfl (by assumption) (by assumption) ?_ | refine mP_getI rfl (by assumption) ?_ | refine mP_getR rfl (by assumption) (by assumption) ?_ | refine mP_getLv rfl (by assumption) (by assumption) ?_ | refine mP_getL rfl (by assumption) ?_) | ((show mP _ _ _ _ (_ :: Value.ref _ :: _) _ _); first | refine mP_putI rfl (by assumption) ?_ | refine mP_putL rfl (by assumption) ?_)); (try dsimp only))
  simp only [mi_wI, if_true]
  rw [mU_ne (show (6 : Nat) ≠ 0 by decide), hR.1]
  (repeat (first | refine mP_go rfl rfl ?_ | ((show mP _ _ _ _ (Value.ref _ :: _) _ _); first | refine mP_getIv rfl (by assumption) (by assumption) ?_ | refine mP_getI rfl (by assumption) ?_ | refine mP_getR rfl (by assumption) (by assumption) ?_ | refine mP_getLv rfl (by assumption) (by assumption) ?_ | refine mP_getL rfl (by assumption) ?_) | ((show mP _ _ _ _ (_ :: Value.ref _ :: _) _ _); first | refine mP_putI rfl (by assumption) ?_ | refine mP_putL rfl (by assumption) ?_)); (try dsimp only))
  refine mP_iast rfl kf (j := n) hn (by decide) ?_
  (repeat (first | refine mP_go rfl rfl ?_ | ((show mP _ _ _ _ (Value.ref _ :: _) _ _); first | refine mP_getIv rfl (by assumption) (by assumption) ?_ | refine mP_getI rfl (by assumption) ?_ | refine mP_getR rfl (by assumption) (by assumption) ?_ | refine mP_getLv rfl (by assumption) (by assumption) ?_ | refine mP_getL rfl (by assumption) ?_) | ((show mP _ _ _ _ (_ :: Value.ref _ :: _) _ _); first | refine mP_putI rfl (by assumption) ?_ | refine mP_putL rfl (by assumption) ?_)); (try dsimp only))
  simp only [mi_wI, if_true, show ¬ (28 : Nat) = 31 by decide, show ¬ (31 : Nat) = 28 by decide, if_false]
  rw [mU_ne (show (6 : Nat) ≠ 0 by decide), hR.1]
  (repeat (first | refine mP_go rfl rfl ?_ | ((show mP _ _ _ _ (Value.ref _ :: _) _ _); first | refine mP_getIv rfl (by assumption) (by assumption) ?_ | refine mP_getI rfl (by assumption) ?_ | refine mP_getR rfl (by assumption) (by assumption) ?_ | refine mP_getLv rfl (by assumption) (by assumption) ?_ | refine mP_getL rfl (by assumption) ?_) | ((show mP _ _ _ _ (_ :: Value.ref _ :: _) _ _); first | refine mP_putI rfl (by assumption) ?_ | refine mP_putL rfl (by assumption) ?_)); (try dsimp only))
  refine mP_iast rfl kg (j := n) hn (by decide) ?_
  (repeat (first | refine mP_go rfl rfl ?_ | ((show mP _ _ _ _ (Value.ref _ :: _) _ _); first | refine mP_getIv rfl (by assumption) (by assumption) ?_ | refine mP_getI rfl (by assumption) ?_ | refine mP_getR rfl (by assumption) (by assumption) ?_ | refine mP_getLv rfl (by assumption) (by assumption) ?_ | refine mP_getL rfl (by assumption) ?_) | ((show mP _ _ _ _ (_ :: Value.ref _ :: _) _ _); first | refine mP_putI rfl (by assumption) ?_ | refine mP_putL rfl (by assumption) ?_)); (try dsimp only))
  simp only [mi_wI, if_true, show ¬ (28 : Nat) = 31 by decide, show ¬ (31 : Nat) = 28 by decide, show ¬ (28 : Nat) = 32 by decide, show ¬ (32 : Nat) = 28 by decide, show ¬ (32 : Nat) = 31 by decide, if_false]
  rw [mU_ne (show (6 : Nat) ≠ 0 by decide), hR.1]
  (repeat (first | refine mP_go rfl rfl ?_ | ((show mP _ _ _ _ (Value.ref _ :: _) _ _); first | refine mP_getIv rfl (by assumption) (by assumption) ?_ | refine mP_getI rfl (by assumption) ?_ | refine mP_getR rfl (by assumption) (by assumption) ?_ | refine mP_getLv rfl (by assumption) (by assumption) ?_ | refine mP_getL rfl (by assumption) ?_) | ((show mP _ _ _ _ (_ :: Value.ref _ :: _) _ _); first | refine mP_putI rfl (by assumption) ?_ | refine mP_putL rfl (by assumption) ?_)); (try dsimp only))
  refine mP_ret rfl rfl ⟨rfl, ?_⟩
  unfold mpW_twins
  rw [nI_inc]
  rw [wI_comm M 28 31 _ _ (by decide), wI_comm _ 28 32 _ _ (by decide), wI_wI]
  rfl
