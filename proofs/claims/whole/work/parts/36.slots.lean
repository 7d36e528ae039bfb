/-! SLOTS: who meets whom, who is at home: pure, and by both sides -/
section TI
variable {a b : Int}
theorem tI_eq (ha : -2147483648 ≤ a ∧ a < 2147483648) (hb : -2147483648 ≤ b ∧ b < 2147483648) : mTest .eq (iI a) (iI b) = decide (a = b) := decide_eq_decide.mpr (iI_eq ha.1 ha.2 hb.1 hb.2)
theorem tI_ne (ha : -2147483648 ≤ a ∧ a < 2147483648) (hb : -2147483648 ≤ b ∧ b < 2147483648) : mTest .ne (iI a) (iI b) = decide (a ≠ b) := decide_eq_decide.mpr (not_congr (iI_eq ha.1 ha.2 hb.1 hb.2))
theorem tI_lt (ha : -2147483648 ≤ a ∧ a < 2147483648) (hb : -2147483648 ≤ b ∧ b < 2147483648) : mTest .lt (iI a) (iI b) = decide (a < b) := decide_eq_decide.mpr (iI_lt ha.1 ha.2 hb.1 hb.2)
theorem tI_ge (ha : -2147483648 ≤ a ∧ a < 2147483648) (hb : -2147483648 ≤ b ∧ b < 2147483648) : mTest .ge (iI a) (iI b) = decide (b ≤ a) := decide_eq_decide.mpr (iI_le hb.1 hb.2 ha.1 ha.2)
theorem tI_gt (ha : -2147483648 ≤ a ∧ a < 2147483648) (hb : -2147483648 ≤ b ∧ b < 2147483648) : mTest .gt (iI a) (iI b) = decide (b < a) := decide_eq_decide.mpr (iI_lt hb.1 hb.2 ha.1 ha.2)
theorem tI_le (ha : -2147483648 ≤ a ∧ a < 2147483648) (hb : -2147483648 ≤ b ∧ b < 2147483648) : mTest .le (iI a) (iI b) = decide (a ≤ b) := decide_eq_decide.mpr (iI_le ha.1 ha.2 hb.1 hb.2)
end TI
/-- the rest by N - 1 of what is off by N - 1 at most -/
def wr (N : Nat) (k : Int) : Int := if k < 0 then k + (N - 1) else if (N : Int) - 1 ≤ k then k - (N - 1) else k
/-- who meets slot s in round r -/
def rv (N r s : Nat) : Int := if s = N - 1 then r else if s = r then N - 1 else wr N (2 * r - s)
/-- slot s is at home in round r -/
def hm (N r s : Nat) : Bool := if s = N - 1 then decide (r % 2 = 1) else if s = r then decide (r % 2 = 0) else (if wr N ((s : Int) - r) < (N / 2 : Nat) then decide (wr N ((s : Int) - r) % 2 = 1) else decide (((N : Int) - 1 - wr N ((s : Int) - r)) % 2 = 0))
def okN (N : Nat) : Prop := 4 ≤ N ∧ N ≤ 16 ∧ N % 2 = 0
theorem wr_in {N : Nat} {k : Int} (hN : okN N) (h1 : -((N : Int) - 1) ≤ k) (h2 : k < 2 * ((N : Int) - 1)) : 0 ≤ wr N k ∧ wr N k < N - 1 := by
  obtain ⟨a1, a2, -⟩ := hN
  unfold wr
  split
  · omega
  · split <;> omega
theorem sp_wrapped {d : Nat} {M : mM} {N : Nat} {k : Int} (hO : mOK M) (hN : okN N) (hT : mi M 8 3 = nI N) (h1 : -64 ≤ k) (h2 : k ≤ 64) : mR d mFull_wrapped [.ref 8, .int (iI k)] M (some (.int (iI (wr N k)))) M := by
  have k8 : mKd M 8 = (1, 5) := hO.k 8
  obtain ⟨a1, a2, -⟩ := hN
  rw [nI_iI] at hT
  show mP d mFull_wrapped 0 [.ref 8, .int (iI k)] [] M _
  (repeat (first | refine mP_go rfl rfl ?_ | refine mP_getI rfl (by assumption) ?_ | refine mP_getR rfl (by assumption) (by assumption) ?_ | refine mP_getL rfl (by assumption) ?_ | refine mP_putI rfl (by assumption) ?_ | refine mP_putL rfl (by assumption) ?_); (try dsimp only))
  by_cases c1 : k < 0
  · refine mP_ifF rfl (by rw [show (0 : Int32) = iI 0 from rfl, tI_ge (by omega) (by omega)]; exact decide_eq_false (by omega)) ?_
    (repeat (first | refine mP_go rfl rfl ?_ | refine mP_getI rfl (by assumption) ?_ | refine mP_getR rfl (by assumption) (by assumption) ?_ | refine mP_getL rfl (by assumption) ?_ | refine mP_putI rfl (by assumption) ?_ | refine mP_putL rfl (by assumption) ?_); (try dsimp only))
    rw [hT, iI_add, iI_sub]
    refine mP_ret rfl rfl ⟨?_, rfl⟩
    rw [wr, if_pos c1]
    congr 3
    congr 1
    omega
  · refine mP_ifT rfl (by rw [show (0 : Int32) = iI 0 from rfl, tI_ge (by omega) (by omega)]; exact decide_eq_true (by omega)) ?_
    (repeat (first | refine mP_go rfl rfl ?_ | refine mP_getI rfl (by assumption) ?_ | refine mP_getR rfl (by assumption) (by assumption) ?_ | refine mP_getL rfl (by assumption) ?_ | refine mP_putI rfl (by assumption) ?_ | refine mP_putL rfl (by assumption) ?_); (try dsimp only))
    rw [hT, iI_sub]
    by_cases c2 : (N : Int) - 1 ≤ k
    · refine mP_cmpF rfl (by rw [tI_lt (by omega) (by omega)]; exact decide_eq_false (by omega)) ?_
      (repeat (first | refine mP_go rfl rfl ?_ | refine mP_getI rfl (by assumption) ?_ | refine mP_getR rfl (by assumption) (by assumption) ?_ | refine mP_getL rfl (by assumption) ?_ | refine mP_putI rfl (by assumption) ?_ | refine mP_putL rfl (by assumption) ?_); (try dsimp only))
      rw [hT, iI_sub, iI_sub]
      (repeat (first | refine mP_go rfl rfl ?_ | refine mP_getI rfl (by assumption) ?_ | refine mP_getR rfl (by assumption) (by assumption) ?_ | refine mP_getL rfl (by assumption) ?_ | refine mP_putI rfl (by assumption) ?_ | refine mP_putL rfl (by assumption) ?_); (try dsimp only))
      refine mP_ret rfl rfl ⟨?_, rfl⟩
      rw [wr, if_neg c1, if_pos c2]
    · refine mP_cmpT rfl (by rw [tI_lt (by omega) (by omega)]; exact decide_eq_true (by omega)) ?_
      (repeat (first | refine mP_go rfl rfl ?_ | refine mP_getI rfl (by assumption) ?_ | refine mP_getR rfl (by assumption) (by assumption) ?_ | refine mP_getL rfl (by assumption) ?_ | refine mP_putI rfl (by assumption) ?_ | refine mP_putL rfl (by assumption) ?_); (try dsimp only))
      refine mP_ret rfl rfl ⟨?_, rfl⟩
      rw [wr, if_neg c1, if_neg c2]
theorem sp_rivalSlot {d : Nat} {M : mM} {N r s : Nat} (hO : mOK M) (hN : okN N) (hT : mi M 8 3 = nI N) (hr : r < N - 1) (hs : s < N) : mR (d + 1) mFull_rivalSlot [.ref 8, .int (nI s), .int (nI r)] M (some (.int (iI (rv N r s)))) M := by
  have k8 : mKd M 8 = (1, 5) := hO.k 8
  obtain ⟨a1, a2, -⟩ := id hN
  have hT0 := hT
  rw [nI_iI] at hT
  rw [nI_iI s, nI_iI r]
  show mP (d + 1) mFull_rivalSlot 0 [.ref 8, .int (iI s), .int (iI r)] [] M _
  (repeat (first | refine mP_go rfl rfl ?_ | refine mP_getI rfl (by assumption) ?_ | refine mP_getR rfl (by assumption) (by assumption) ?_ | refine mP_getL rfl (by assumption) ?_ | refine mP_putI rfl (by assumption) ?_ | refine mP_putL rfl (by assumption) ?_); (try dsimp only))
  rw [hT, iI_sub]
  by_cases c1 : s = N - 1
  · refine mP_cmpF rfl (by rw [tI_ne (by omega) (by omega)]; exact decide_eq_false (by omega)) ?_
    (repeat (first | refine mP_go rfl rfl ?_ | refine mP_getI rfl (by assumption) ?_ | refine mP_getR rfl (by assumption) (by assumption) ?_ | refine mP_getL rfl (by assumption) ?_ | refine mP_putI rfl (by assumption) ?_ | refine mP_putL rfl (by assumption) ?_); (try dsimp only))
    refine mP_ret rfl rfl ⟨?_, rfl⟩
    rw [rv, if_pos c1]
  · refine mP_cmpT rfl (by rw [tI_ne (by omega) (by omega)]; exact decide_eq_true (by omega)) ?_
    (repeat (first | refine mP_go rfl rfl ?_ | refine mP_getI rfl (by assumption) ?_ | refine mP_getR rfl (by assumption) (by assumption) ?_ | refine mP_getL rfl (by assumption) ?_ | refine mP_putI rfl (by assumption) ?_ | refine mP_putL rfl (by assumption) ?_); (try dsimp only))
    by_cases c2 : s = r
    · refine mP_cmpF rfl (by rw [tI_ne (by omega) (by omega)]; exact decide_eq_false (by omega)) ?_
      (repeat (first | refine mP_go rfl rfl ?_ | refine mP_getI rfl (by assumption) ?_ | refine mP_getR rfl (by assumption) (by assumption) ?_ | refine mP_getL rfl (by assumption) ?_ | refine mP_putI rfl (by assumption) ?_ | refine mP_putL rfl (by assumption) ?_); (try dsimp only))
      rw [hT, iI_sub]
      refine mP_ret rfl rfl ⟨?_, rfl⟩
      rw [rv, if_neg c1, if_pos c2]
    · refine mP_cmpT rfl (by rw [tI_ne (by omega) (by omega)]; exact decide_eq_true (by omega)) ?_
      (repeat (first | refine mP_go rfl rfl ?_ | refine mP_getI rfl (by assumption) ?_ | refine mP_getR rfl (by assumption) (by assumption) ?_ | refine mP_getL rfl (by assumption) ?_ | refine mP_putI rfl (by assumption) ?_ | refine mP_putL rfl (by assumption) ?_); (try dsimp only))
      rw [iI_add, iI_sub]
      refine mP_V rfl rfl k8 rfl (sp_wrapped hO hN hT0 (by omega) (by omega)) ?_
      refine mP_ret rfl rfl ⟨?_, rfl⟩
      rw [rv, if_neg c1, if_neg c2, show (2 * (r : Int) - s) = r + r - s by omega]
theorem iI_nn {k : Int} (h : 0 ≤ k) : iI k = nI k.toNat := by rw [nI_iI, Int.toNat_of_nonneg h]
theorem iI_and1 {k : Int} (h : 0 ≤ k) : iI k &&& iI 1 = iI (k % 2) := by
  rw [iI_nn h, show iI 1 = nI 1 from rfl, nI_and1, nI_iI]
  congr 1
  omega
theorem iI_half {N : Nat} (h : N ≤ 16) : iI N / iI 2 = iI ((N / 2 : Nat) : Int) := by
  have : (List.range 17).all (fun N => decide (iI (N : Int) / iI 2 = iI ((N / 2 : Nat) : Int))) = true := by decide +kernel
  exact of_decide_eq_true (List.all_eq_true.mp this N (List.mem_range.mpr (by omega)))
theorem sp_isHome {d : Nat} {M : mM} {N r s : Nat} (hO : mOK M) (hN : okN N) (hT : mi M 8 3 = nI N) (hr : r < N - 1) (hs : s < N) : mR (d + 1) mFull_isHome [.ref 8, .int (nI s), .int (nI r)] M (some (.int (bI (hm N r s)))) M := by
  have k8 : mKd M 8 = (1, 5) := hO.k 8
  obtain ⟨a1, a2, a3⟩ := id hN
  have hT0 := hT
  rw [nI_iI] at hT
  rw [nI_iI s, nI_iI r]
  show mP (d + 1) mFull_isHome 0 [.ref 8, .int (iI s), .int (iI r), .retAddr 0, .retAddr 0] [] M _
  (repeat (first | refine mP_go rfl rfl ?_ | refine mP_getI rfl (by assumption) ?_ | refine mP_getR rfl (by assumption) (by assumption) ?_ | refine mP_getL rfl (by assumption) ?_ | refine mP_putI rfl (by assumption) ?_ | refine mP_putL rfl (by assumption) ?_); (try dsimp only))
  rw [iI_and1 (by omega), show (0 : Int32) = iI 0 from rfl] 
  have tail : ∀ e : Bool, e = decide (r % 2 = 0) → mP (d + 1) mFull_isHome 12 [.ref 8, .int (iI s), .int (iI r), .int (bI e), .retAddr 0] [] M (fun o M' => o = .inl (some (.int (bI (hm N r s)))) ∧ M' = M) := by
    intro e he
    (repeat (first | refine mP_go rfl rfl ?_ | refine mP_getI rfl (by assumption) ?_ | refine mP_getR rfl (by assumption) (by assumption) ?_ | refine mP_getL rfl (by assumption) ?_ | refine mP_putI rfl (by assumption) ?_ | refine mP_putL rfl (by assumption) ?_); (try dsimp only))
    rw [hT, iI_sub]
    by_cases c1 : s = N - 1
    · refine mP_cmpF rfl (by rw [tI_ne (by omega) (by omega)]; exact decide_eq_false (by omega)) ?_
      cases e with
      | true =>
        (repeat (first | refine mP_go rfl rfl ?_ | refine mP_getI rfl (by assumption) ?_ | refine mP_getR rfl (by assumption) (by assumption) ?_ | refine mP_getL rfl (by assumption) ?_ | refine mP_putI rfl (by assumption) ?_ | refine mP_putL rfl (by assumption) ?_); (try dsimp only))
        refine mP_ret rfl rfl ⟨?_, rfl⟩
        have : r % 2 = 0 := of_decide_eq_true he.symm
        rw [hm, if_pos c1, decide_eq_false (by omega)]
        rfl
      | false =>
        (repeat (first | refine mP_go rfl rfl ?_ | refine mP_getI rfl (by assumption) ?_ | refine mP_getR rfl (by assumption) (by assumption) ?_ | refine mP_getL rfl (by assumption) ?_ | refine mP_putI rfl (by assumption) ?_ | refine mP_putL rfl (by assumption) ?_); (try dsimp only))
        refine mP_ret rfl rfl ⟨?_, rfl⟩
        have : ¬ r % 2 = 0 := of_decide_eq_false he.symm
        rw [hm, if_pos c1, decide_eq_true (by omega)]
        rfl
    · refine mP_cmpT rfl (by rw [tI_ne (by omega) (by omega)]; exact decide_eq_true (by omega)) ?_
      (repeat (first | refine mP_go rfl rfl ?_ | refine mP_getI rfl (by assumption) ?_ | refine mP_getR rfl (by assumption) (by assumption) ?_ | refine mP_getL rfl (by assumption) ?_ | refine mP_putI rfl (by assumption) ?_ | refine mP_putL rfl (by assumption) ?_); (try dsimp only))
      by_cases c2 : s = r
      · refine mP_cmpF rfl (by rw [tI_ne (by omega) (by omega)]; exact decide_eq_false (by omega)) ?_
        (repeat (first | refine mP_go rfl rfl ?_ | refine mP_getI rfl (by assumption) ?_ | refine mP_getR rfl (by assumption) (by assumption) ?_ | refine mP_getL rfl (by assumption) ?_ | refine mP_putI rfl (by assumption) ?_ | refine mP_putL rfl (by assumption) ?_); (try dsimp only))
        refine mP_retB rfl rfl (bI_01 e) ⟨?_, rfl⟩
        rw [hm, if_neg c1, if_pos c2, he]
      · refine mP_cmpT rfl (by rw [tI_ne (by omega) (by omega)]; exact decide_eq_true (by omega)) ?_
        (repeat (first | refine mP_go rfl rfl ?_ | refine mP_getI rfl (by assumption) ?_ | refine mP_getR rfl (by assumption) (by assumption) ?_ | refine mP_getL rfl (by assumption) ?_ | refine mP_putI rfl (by assumption) ?_ | refine mP_putL rfl (by assumption) ?_); (try dsimp only))
        rw [iI_sub]
        refine mP_V rfl rfl k8 rfl (sp_wrapped hO hN hT0 (by omega) (by omega)) ?_
        obtain ⟨w1, w2⟩ := wr_in (N := N) (k := (s : Int) - r) hN (by omega) (by omega)
        have hh : hm N r s = (if wr N ((s : Int) - r) < (N / 2 : Nat) then decide (wr N ((s : Int) - r) % 2 = 1) else decide (((N : Int) - 1 - wr N ((s : Int) - r)) % 2 = 0)) := by
          rw [hm, if_neg c1, if_neg c2]
        rw [hh]
        generalize wr N ((s : Int) - r) = u at w1 w2 ⊢
        (repeat (first | refine mP_go rfl rfl ?_ | refine mP_getI rfl (by assumption) ?_ | refine mP_getR rfl (by assumption) (by assumption) ?_ | refine mP_getL rfl (by assumption) ?_ | refine mP_putI rfl (by assumption) ?_ | refine mP_putL rfl (by assumption) ?_); (try dsimp only))
        rw [hT]
        refine mP_idiv rfl (by decide) ?_
        rw [iI_half a2]
        by_cases c3 : u < (N / 2 : Nat)
        · rw [if_pos c3]
          refine mP_cmpF rfl (by rw [tI_ge (by omega) (by omega)]; exact decide_eq_false (by omega)) ?_
          (repeat (first | refine mP_go rfl rfl ?_ | refine mP_getI rfl (by assumption) ?_ | refine mP_getR rfl (by assumption) (by assumption) ?_ | refine mP_getL rfl (by assumption) ?_ | refine mP_putI rfl (by assumption) ?_ | refine mP_putL rfl (by assumption) ?_); (try dsimp only))
          rw [iI_and1 w1]
          by_cases c4 : u % 2 = 1
          · refine mP_cmpF rfl (by rw [tI_ne (by omega) (by omega)]; exact decide_eq_false (by omega)) ?_
            (repeat (first | refine mP_go rfl rfl ?_ | refine mP_getI rfl (by assumption) ?_ | refine mP_getR rfl (by assumption) (by assumption) ?_ | refine mP_getL rfl (by assumption) ?_ | refine mP_putI rfl (by assumption) ?_ | refine mP_putL rfl (by assumption) ?_); (try dsimp only))
            refine mP_ret rfl rfl ⟨?_, rfl⟩
            rw [decide_eq_true c4]
            rfl
          · refine mP_cmpT rfl (by rw [tI_ne (by omega) (by omega)]; exact decide_eq_true (by omega)) ?_
            (repeat (first | refine mP_go rfl rfl ?_ | refine mP_getI rfl (by assumption) ?_ | refine mP_getR rfl (by assumption) (by assumption) ?_ | refine mP_getL rfl (by assumption) ?_ | refine mP_putI rfl (by assumption) ?_ | refine mP_putL rfl (by assumption) ?_); (try dsimp only))
            refine mP_ret rfl rfl ⟨?_, rfl⟩
            rw [decide_eq_false c4]
            rfl
        · rw [if_neg c3]
          refine mP_cmpT rfl (by rw [tI_ge (by omega) (by omega)]; exact decide_eq_true (by omega)) ?_
          (repeat (first | refine mP_go rfl rfl ?_ | refine mP_getI rfl (by assumption) ?_ | refine mP_getR rfl (by assumption) (by assumption) ?_ | refine mP_getL rfl (by assumption) ?_ | refine mP_putI rfl (by assumption) ?_ | refine mP_putL rfl (by assumption) ?_); (try dsimp only))
          rw [hT, iI_sub, iI_sub]
          (repeat (first | refine mP_go rfl rfl ?_ | refine mP_getI rfl (by assumption) ?_ | refine mP_getR rfl (by assumption) (by assumption) ?_ | refine mP_getL rfl (by assumption) ?_ | refine mP_putI rfl (by assumption) ?_ | refine mP_putL rfl (by assumption) ?_); (try dsimp only))
          rw [iI_and1 (by omega)]
          by_cases c4 : ((N : Int) - 1 - u) % 2 = 0
          · refine mP_ifF rfl (by rw [show (0 : Int32) = iI 0 from rfl, tI_ne (by omega) (by omega)]; exact decide_eq_false (by omega)) ?_
            (repeat (first | refine mP_go rfl rfl ?_ | refine mP_getI rfl (by assumption) ?_ | refine mP_getR rfl (by assumption) (by assumption) ?_ | refine mP_getL rfl (by assumption) ?_ | refine mP_putI rfl (by assumption) ?_ | refine mP_putL rfl (by assumption) ?_); (try dsimp only))
            refine mP_ret rfl rfl ⟨?_, rfl⟩
            rw [decide_eq_true c4]
            rfl
          · refine mP_ifT rfl (by rw [show (0 : Int32) = iI 0 from rfl, tI_ne (by omega) (by omega)]; exact decide_eq_true (by omega)) ?_
            (repeat (first | refine mP_go rfl rfl ?_ | refine mP_getI rfl (by assumption) ?_ | refine mP_getR rfl (by assumption) (by assumption) ?_ | refine mP_getL rfl (by assumption) ?_ | refine mP_putI rfl (by assumption) ?_ | refine mP_putL rfl (by assumption) ?_); (try dsimp only))
            refine mP_ret rfl rfl ⟨?_, rfl⟩
            rw [decide_eq_false c4]
            rfl
  by_cases c0 : r % 2 = 0
  · refine mP_ifF rfl (by rw [show (0 : Int32) = iI 0 from rfl, tI_ne (by omega) (by omega)]; exact decide_eq_false (by omega)) ?_
    refine mP_go rfl rfl ?_
    refine mP_go rfl rfl ?_
    refine mP_go rfl rfl ?_
    exact tail true (decide_eq_true c0).symm
  · refine mP_ifT rfl (by rw [show (0 : Int32) = iI 0 from rfl, tI_ne (by omega) (by omega)]; exact decide_eq_true (by omega)) ?_
    refine mP_go rfl rfl ?_
    refine mP_go rfl rfl ?_
    exact tail false (decide_eq_false c0).symm
