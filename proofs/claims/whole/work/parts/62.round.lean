/-! A ROUND by the code -/
def mkB (f : Nat → Bool) : Nat → Nat
  | 0 => 0
  | k + 1 => mkB f k + if f k then 2 ^ k else 0
theorem mkB_lt (f : Nat → Bool) : ∀ k, mkB f k < 2 ^ k := by
  intro k
  induction k with
  | zero => exact Nat.one_pos
  | succ k ih =>
    rw [mkB, Nat.pow_succ]
    split <;> omega
theorem mkB_bit (f : Nat → Bool) : ∀ k j, (mkB f k).testBit j = (decide (j < k) && f j) := by
  intro k
  induction k with
  | zero => intro j; show Nat.testBit 0 j = _; rw [Nat.zero_testBit, decide_eq_false (by omega)]; rfl
  | succ k ih =>
    intro j
    have hlt := mkB_lt f k
    cases c : f k with
    | false =>
      have e : mkB f (k + 1) = mkB f k := by rw [mkB, c]; rfl
      rw [e, ih j]
      by_cases q : j = k
      · subst q; rw [c, Bool.and_false, Bool.and_false]
      · by_cases q2 : j < k
        · rw [decide_eq_true q2, decide_eq_true (show j < k + 1 by omega)]
        · rw [decide_eq_false q2, decide_eq_false (show ¬ j < k + 1 by omega)]
    | true =>
      have e : mkB f (k + 1) = 2 ^ k * 1 + mkB f k := by rw [mkB, c, if_pos rfl, Nat.mul_one, Nat.add_comm]
      rw [e, Nat.testBit_two_pow_mul_add _ hlt]
      by_cases q2 : j < k
      · rw [if_pos q2, ih j, decide_eq_true q2, decide_eq_true (show j < k + 1 by omega)]
      · rw [if_neg q2]
        by_cases q : j = k
        · subst q; rw [Nat.sub_self, c, decide_eq_true (show j < j + 1 by omega)]; rfl
        · rw [decide_eq_false (show ¬ j < k + 1 by omega), Bool.false_and]
          obtain ⟨i, hi⟩ : ∃ i, j - k = i + 1 := ⟨j - k - 1, by omega⟩
          rw [hi, Nat.testBit_succ]
          exact Nat.zero_testBit i
/-- with the free round when odd -/
def TT (s : Nat) : Nat := if pc s % 2 = 1 then s + 65536 else s
theorem TT_lt {s : Nat} (hs : s < 65536) : TT s < 131072 := by unfold TT; split <;> omega
theorem TT_bit {s : Nat} (hs : s < 65536) (b : Nat) : (TT s).testBit b = if b < 16 then s.testBit b else (decide (b = 16) && decide (pc s % 2 = 1)) := by
  unfold TT
  have hhi : ∀ j, 16 ≤ j → s.testBit j = false := fun j hj => Nat.testBit_lt_two_pow (Nat.lt_of_lt_of_le (show s < 2 ^ 16 from hs) (Nat.pow_le_pow_right (by decide) hj))
  by_cases c : pc s % 2 = 1
  · rw [if_pos c, show s + 65536 = 2 ^ 16 * 1 + s by omega, Nat.testBit_two_pow_mul_add _ (show s < 2 ^ 16 from hs), decide_eq_true c, Bool.and_true]
    by_cases q : b < 16
    · rw [if_pos q, if_pos q]
    · rw [if_neg q, if_neg q]
      by_cases q2 : b = 16
      · subst q2; rfl
      · rw [decide_eq_false q2]
        obtain ⟨i, hi⟩ : ∃ i, b - 16 = i + 1 := ⟨b - 16 - 1, by omega⟩
        rw [hi, Nat.testBit_succ]
        exact Nat.zero_testBit i
  · rw [if_neg c, decide_eq_false c, Bool.and_false]
    by_cases q : b < 16
    · rw [if_pos q]
    · rw [if_neg q]; exact hhi b (by omega)
theorem cnt_lt {m : Nat} (hm : m ≤ 16) : (List.range 16).countP (fun j => decide (j < m)) = m := by
  have hh : m = 0 ∨ m = 1 ∨ m = 2 ∨ m = 3 ∨ m = 4 ∨ m = 5 ∨ m = 6 ∨ m = 7 ∨ m = 8 ∨ m = 9 ∨ m = 10 ∨ m = 11 ∨ m = 12 ∨ m = 13 ∨ m = 14 ∨ m = 15 ∨ m = 16 := by omega
  rcases hh with rfl | rfl | rfl | rfl | rfl | rfl | rfl | rfl | rfl | rfl | rfl | rfl | rfl | rfl | rfl | rfl | rfl <;> decide
theorem pc_all {m : Nat} (hm : m ≤ 16) : pc (2 ^ m - 1) = m := by
  unfold pc
  rw [← cnt_lt hm]
  apply List.countP_congr
  intro j _
  rw [all_bit, cnt_lt hm]
def aLL (p g : Nat) : Nat := mkB (inB p g) p
theorem aLL_bit (p g j : Nat) : (aLL p g).testBit j = inB p g j := by
  unfold aLL
  rw [mkB_bit]
  by_cases c : j < p
  · rw [decide_eq_true c, Bool.true_and]
  · rw [decide_eq_false c]; unfold inB; rw [decide_eq_false c]; rfl
theorem aLL_lt {p g : Nat} (hp : p ≤ 16) : aLL p g < 65536 := Nat.lt_of_lt_of_le (mkB_lt _ _) (Nat.pow_le_pow_right (n := 2) (j := 16) (by decide) hp)
theorem aLL_pc {p g : Nat} (hp : p ≤ 16) : pc (aLL p g) = nIn p g := by
  have e : pc (aLL p g) = (List.range 16).countP (inB p g) := by
    unfold pc
    apply List.countP_congr
    intro j _
    rw [aLL_bit]
  rw [e]
  unfold nIn
  rw [cnB_pc]
  have key2 : ∀ d, (List.range (p + d)).countP (inB p g) = (List.range p).countP (inB p g) := by
    intro d
    induction d with
    | zero => rfl
    | succ d ih =>
      show (List.range (p + d + 1)).countP _ = _
      rw [List.range_succ, List.countP_append, ih]
      have : inB p g (p + d) = false := by unfold inB; rw [decide_eq_false (by omega)]; rfl
      simp [this]
  have := key2 (16 - p)
  rw [show p + (16 - p) = 16 by omega] at this
  exact this
def T0P (p g : Nat) : Nat := TT (aLL p g)
theorem T0_bit {p g : Nat} (hp : p ≤ 16) (b : Nat) : (T0P p g).testBit b = true ↔ (inB p g b = true ∨ (b = 16 ∧ nIn p g % 2 = 1)) := by
  unfold T0P
  rw [TT_bit (aLL_lt hp), aLL_pc hp]
  by_cases c : b < 16
  · rw [if_pos c, aLL_bit]
    constructor
    · exact fun h => Or.inl h
    · rintro (h | ⟨h, -⟩)
      · exact h
      · omega
  · rw [if_neg c, Bool.and_eq_true, decide_eq_true_eq, decide_eq_true_eq]
    constructor
    · exact fun h => Or.inr h
    · rintro (h | h)
      · unfold inB at h
        rw [Bool.and_eq_true, decide_eq_true_eq] at h
        omega
      · exact h
theorem FE.im {p g m : Nat} {e : Nat → Nat} (hp : p ≤ 16) (h : FE p g m e) : IM m e (2 ^ m - 1) (T0P p g) := by
  obtain ⟨hm, h1, h2, h3⟩ := h
  have hple : 2 ^ m ≤ 65536 := Nat.pow_le_pow_right (n := 2) (j := 16) (by decide) hm.1
  have hpp := Nat.two_pow_pos m
  refine ⟨TT_lt (aLL_lt hp), by omega, fun i hi => ?_, fun b => ?_⟩
  · rw [all_bit] at hi; exact of_decide_eq_true hi
  · rw [T0_bit hp, ← h3 b]
    constructor
    · rintro ⟨i, i1, i2⟩
      exact ⟨i, i1, i2, by rw [all_bit, decide_eq_true i1]⟩
    · rintro ⟨i, i1, i2, -⟩
      exact ⟨i, i1, i2⟩
theorem FE.le {p g m : Nat} {e : Nat → Nat} (h : FE p g m e) {i : Nat} (hi : i < m) : inB p g (e i) = true ∨ (e i = 16 ∧ nIn p g % 2 = 1) := (h.2.2.2 (e i)).mp ⟨i, hi, rfl⟩
theorem inB_lt {p g b : Nat} (h : inB p g b = true) : b < p ∧ g.testBit b = false := by
  unfold inB at h
  rw [Bool.and_eq_true, decide_eq_true_eq] at h
  refine ⟨h.1, ?_⟩
  cases q : g.testBit b with
  | false => rfl
  | true => rw [q] at h; cases h.2
/-! entering -/
theorem sp_enter {d : Nat} {M : mM} {c b : Nat} (hO : mOK M) (h4 : mi M 20 4 = nI c) (hc : c < 16) : ∃ M2, mR d mMatch_enter [.ref 20, .int (nI b)] M none M2 ∧ (Fr [20, 21] [] M M2 ∧ mi M2 20 4 = nI (c + 1) ∧ mi M2 21 = va_up (mi M 21) c (nI b)) := by
  have k20 : mKd M 20 = (3, 6) := hO.k 20
  have k21 : mKd M 21 = (10, 16) := hO.k 21
  have r21 : mr M 20 0 = some 21 := hO.r 20 0 21
  apply mP_ex
  show mP d mMatch_enter 0 [.ref 20, .int (nI b)] [] M _
  (repeat (first | refine mP_go rfl rfl ?_ | ((show mP _ _ _ _ (Value.ref _ :: _) _ _); first | refine mP_getIv rfl (by assumption) (by assumption) ?_ | refine mP_getI rfl (by assumption) ?_ | refine mP_getR rfl (by assumption) (by assumption) ?_ | refine mP_getLv rfl (by assumption) (by assumption) ?_ | refine mP_getL rfl (by assumption) ?_) | ((show mP _ _ _ _ (_ :: Value.ref _ :: _) _ _); first | refine mP_putI rfl (by assumption) ?_ | refine mP_putL rfl (by assumption) ?_) | (first | ((show mP _ _ _ _ (Value.int _ :: Value.int _ :: _) _ _); first | refine mP_cmpT rfl (by ((apply tXT); (repeat' (first | with_reducible apply tt_rem | with_reducible apply tt_div | with_reducible apply tt_and1 | with_reducible apply tt_add | with_reducible apply tt_sub | with_reducible apply tt_mul | with_reducible apply tt_neg | with_reducible refine nI_toInt ?_ | with_reducible refine iI_toInt ?_ ?_ | with_reducible exact tz0 | with_reducible assumption | omega | exact decide_eq_true rfl | ((simp only [tC, decide_eq_true_eq, decide_eq_false_iff_not]); omega))); (fail_if_success (focus skip)))) ?_ | refine mP_cmpF rfl (by ((apply tXT); (repeat' (first | with_reducible apply tt_rem | with_reducible apply tt_div | with_reducible apply tt_and1 | with_reducible apply tt_add | with_reducible apply tt_sub | with_reducible apply tt_mul | with_reducible apply tt_neg | with_reducible refine nI_toInt ?_ | with_reducible refine iI_toInt ?_ ?_ | with_reducible exact tz0 | with_reducible assumption | omega | exact decide_eq_true rfl | ((simp only [tC, decide_eq_true_eq, decide_eq_false_iff_not]); omega))); (fail_if_success (focus skip)))) ?_) | ((show mP _ _ _ _ (Value.int _ :: _) _ _); first | refine mP_ifT rfl (by ((apply tXT); (repeat' (first | with_reducible apply tt_rem | with_reducible apply tt_div | with_reducible apply tt_and1 | with_reducible apply tt_add | with_reducible apply tt_sub | with_reducible apply tt_mul | with_reducible apply tt_neg | with_reducible refine nI_toInt ?_ | with_reducible refine iI_toInt ?_ ?_ | with_reducible exact tz0 | with_reducible assumption | omega | exact decide_eq_true rfl | ((simp only [tC, decide_eq_true_eq, decide_eq_false_iff_not]); omega))); (fail_if_success (focus skip)))) ?_ | refine mP_ifF rfl (by ((apply tXT); (repeat' (first | with_reducible apply tt_rem | with_reducible apply tt_div | with_reducible apply tt_and1 | with_reducible apply tt_add | with_reducible apply tt_sub | with_reducible apply tt_mul | with_reducible apply tt_neg | with_reducible refine nI_toInt ?_ | with_reducible refine iI_toInt ?_ ?_ | with_reducible exact tz0 | with_reducible assumption | omega | exact decide_eq_true rfl | ((simp only [tC, decide_eq_true_eq, decide_eq_false_iff_not]); omega))); (fail_if_success (focus skip)))) ?_))); (try dsimp only))
  refine mP_iaS (j := c) rfl k21 (by ((repeat' (first | with_reducible apply tt_rem | with_reducible apply tt_div | with_reducible apply tt_and1 | with_reducible apply tt_add | with_reducible apply tt_sub | with_reducible apply tt_mul | with_reducible apply tt_neg | with_reducible refine nI_toInt ?_ | with_reducible refine iI_toInt ?_ ?_ | with_reducible exact tz0 | with_reducible assumption | omega)); (fail_if_success (focus skip)))) (by omega) (by omega) (by decide) ?_
  generalize hM2 : wI M 21 (va_up (mi M 21) c (nI b)) = M2
  have hf2 : Fr [20, 21] [] M M2 := hM2 ▸ (Fr.nil M).put _
  have k202 : mKd M2 20 = (3, 6) := (hf2.ok hO).k 20
  have h42 : mi M2 20 4 = nI c := by rw [← hM2]; exact h4
  have h21 : mi M2 21 = va_up (mi M 21) c (nI b) := hM2 ▸ rfl
  (repeat (first | refine mP_go rfl rfl ?_ | ((show mP _ _ _ _ (Value.ref _ :: _) _ _); first | refine mP_getIv rfl (by assumption) (by assumption) ?_ | refine mP_getI rfl (by assumption) ?_ | refine mP_getR rfl (by assumption) (by assumption) ?_ | refine mP_getLv rfl (by assumption) (by assumption) ?_ | refine mP_getL rfl (by assumption) ?_) | ((show mP _ _ _ _ (_ :: Value.ref _ :: _) _ _); first | refine mP_putI rfl (by assumption) ?_ | refine mP_putL rfl (by assumption) ?_)); (try dsimp only))
  rw [nI_inc]
  exact mP_ret rfl rfl ⟨rfl, hf2.put _, (by rw [mi_wI, if_pos rfl, mU_eq]), h21⟩
def ekP (f : Nat → Bool) (k c : Nat) (e : Nat → Nat) : Prop := (∀ i, i < c → e i < k) ∧ (∀ i j, i < j → j < c → e i < e j) ∧ ∀ b, (∃ i, i < c ∧ e i = b) ↔ (b < k ∧ f b = true)
theorem sp_playerOf {d : Nat} {M : mM} {m i : Nat} {e : Nat → Nat} (hO : mOK M) (h4 : mi M 20 4 = nI m) (hm : m ≤ 16) (hi : i < m) (h21 : mi M 21 i = nI (e i)) : mR d mMatch_playerOf [.ref 20, .int (nI i)] M (some (.int (nI (e i)))) M := by
  have k20 : mKd M 20 = (3, 6) := hO.k 20
  have k21 : mKd M 21 = (10, 16) := hO.k 21
  have r21 : mr M 20 0 = some 21 := hO.r 20 0 21
  show mP d mMatch_playerOf 0 [.ref 20, .int (nI i)] [] M _
  (repeat (first | refine mP_go rfl rfl ?_ | ((show mP _ _ _ _ (Value.ref _ :: _) _ _); first | refine mP_getIv rfl (by assumption) (by assumption) ?_ | refine mP_getI rfl (by assumption) ?_ | refine mP_getR rfl (by assumption) (by assumption) ?_ | refine mP_getLv rfl (by assumption) (by assumption) ?_ | refine mP_getL rfl (by assumption) ?_) | ((show mP _ _ _ _ (_ :: Value.ref _ :: _) _ _); first | refine mP_putI rfl (by assumption) ?_ | refine mP_putL rfl (by assumption) ?_) | (first | ((show mP _ _ _ _ (Value.int _ :: Value.int _ :: _) _ _); first | refine mP_cmpT rfl (by ((apply tXT); (repeat' (first | with_reducible apply tt_rem | with_reducible apply tt_div | with_reducible apply tt_and1 | with_reducible apply tt_add | with_reducible apply tt_sub | with_reducible apply tt_mul | with_reducible apply tt_neg | with_reducible refine nI_toInt ?_ | with_reducible refine iI_toInt ?_ ?_ | with_reducible exact tz0 | with_reducible assumption | omega | exact decide_eq_true rfl | ((simp only [tC, decide_eq_true_eq, decide_eq_false_iff_not]); omega))); (fail_if_success (focus skip)))) ?_ | refine mP_cmpF rfl (by ((apply tXT); (repeat' (first | with_reducible apply tt_rem | with_reducible apply tt_div | with_reducible apply tt_and1 | with_reducible apply tt_add | with_reducible apply tt_sub | with_reducible apply tt_mul | with_reducible apply tt_neg | with_reducible refine nI_toInt ?_ | with_reducible refine iI_toInt ?_ ?_ | with_reducible exact tz0 | with_reducible assumption | omega | exact decide_eq_true rfl | ((simp only [tC, decide_eq_true_eq, decide_eq_false_iff_not]); omega))); (fail_if_success (focus skip)))) ?_) | ((show mP _ _ _ _ (Value.int _ :: _) _ _); first | refine mP_ifT rfl (by ((apply tXT); (repeat' (first | with_reducible apply tt_rem | with_reducible apply tt_div | with_reducible apply tt_and1 | with_reducible apply tt_add | with_reducible apply tt_sub | with_reducible apply tt_mul | with_reducible apply tt_neg | with_reducible refine nI_toInt ?_ | with_reducible refine iI_toInt ?_ ?_ | with_reducible exact tz0 | with_reducible assumption | omega | exact decide_eq_true rfl | ((simp only [tC, decide_eq_true_eq, decide_eq_false_iff_not]); omega))); (fail_if_success (focus skip)))) ?_ | refine mP_ifF rfl (by ((apply tXT); (repeat' (first | with_reducible apply tt_rem | with_reducible apply tt_div | with_reducible apply tt_and1 | with_reducible apply tt_add | with_reducible apply tt_sub | with_reducible apply tt_mul | with_reducible apply tt_neg | with_reducible refine nI_toInt ?_ | with_reducible refine iI_toInt ?_ ?_ | with_reducible exact tz0 | with_reducible assumption | omega | exact decide_eq_true rfl | ((simp only [tC, decide_eq_true_eq, decide_eq_false_iff_not]); omega))); (fail_if_success (focus skip)))) ?_))); (try dsimp only))
  refine mP_iaX (j := i) rfl k21 (by ((repeat' (first | with_reducible apply tt_rem | with_reducible apply tt_div | with_reducible apply tt_and1 | with_reducible apply tt_add | with_reducible apply tt_sub | with_reducible apply tt_mul | with_reducible apply tt_neg | with_reducible refine nI_toInt ?_ | with_reducible refine iI_toInt ?_ ?_ | with_reducible exact tz0 | with_reducible assumption | omega)); (fail_if_success (focus skip)))) (by omega) (by omega) (by decide) h21 ?_
  (repeat (first | refine mP_go rfl rfl ?_ | ((show mP _ _ _ _ (Value.ref _ :: _) _ _); first | refine mP_getIv rfl (by assumption) (by assumption) ?_ | refine mP_getI rfl (by assumption) ?_ | refine mP_getR rfl (by assumption) (by assumption) ?_ | refine mP_getLv rfl (by assumption) (by assumption) ?_ | refine mP_getL rfl (by assumption) ?_) | ((show mP _ _ _ _ (_ :: Value.ref _ :: _) _ _); first | refine mP_putI rfl (by assumption) ?_ | refine mP_putL rfl (by assumption) ?_)); (try dsimp only))
  exact mP_ret rfl rfl ⟨rfl, rfl⟩
theorem sp_msize {d : Nat} {M : mM} {m : Nat} (hO : mOK M) (h4 : mi M 20 4 = nI m) : mR d mMatch_size [.ref 20] M (some (.int (nI m))) M := by
  have k20 : mKd M 20 = (3, 6) := hO.k 20
  show mP d mMatch_size 0 [.ref 20] [] M _
  (repeat (first | refine mP_go rfl rfl ?_ | ((show mP _ _ _ _ (Value.ref _ :: _) _ _); first | refine mP_getIv rfl (by assumption) (by assumption) ?_ | refine mP_getI rfl (by assumption) ?_ | refine mP_getR rfl (by assumption) (by assumption) ?_ | refine mP_getLv rfl (by assumption) (by assumption) ?_ | refine mP_getL rfl (by assumption) ?_) | ((show mP _ _ _ _ (_ :: Value.ref _ :: _) _ _); first | refine mP_putI rfl (by assumption) ?_ | refine mP_putL rfl (by assumption) ?_)); (try dsimp only))
  exact mP_ret rfl rfl ⟨rfl, rfl⟩
theorem sp_setPrice {d : Nat} {M : mM} {m i k : Nat} {v : Int64} (hO : mOK M) (h4 : mi M 20 4 = nI m) (hm : m ≤ 16) (hik : i < k) (hk : k < m) : mR d mMatch_setPrice [.ref 20, .int (nI i), .int (nI k), .long v] M none (wL M 23 (va_up (ml M 23) (16 * i + k) v)) := by
  have k20 : mKd M 20 = (3, 6) := hO.k 20
  have k23 : mKd M 23 = (11, 256) := hO.k 23
  have r23 : mr M 20 2 = some 23 := hO.r 20 2 23
  show mP d mMatch_setPrice 0 [.ref 20, .int (nI i), .int (nI k), .long v, .retAddr 0] [] M _
  (repeat (first | refine mP_go rfl rfl ?_ | ((show mP _ _ _ _ (Value.ref _ :: _) _ _); first | refine mP_getIv rfl (by assumption) (by assumption) ?_ | refine mP_getI rfl (by assumption) ?_ | refine mP_getR rfl (by assumption) (by assumption) ?_ | refine mP_getLv rfl (by assumption) (by assumption) ?_ | refine mP_getL rfl (by assumption) ?_) | ((show mP _ _ _ _ (_ :: Value.ref _ :: _) _ _); first | refine mP_putI rfl (by assumption) ?_ | refine mP_putL rfl (by assumption) ?_) | (first | ((show mP _ _ _ _ (Value.int _ :: Value.int _ :: _) _ _); first | refine mP_cmpT rfl (by ((apply tXT); (repeat' (first | with_reducible apply tt_rem | with_reducible apply tt_div | with_reducible apply tt_and1 | with_reducible apply tt_add | with_reducible apply tt_sub | with_reducible apply tt_mul | with_reducible apply tt_neg | with_reducible refine nI_toInt ?_ | with_reducible refine iI_toInt ?_ ?_ | with_reducible exact tz0 | with_reducible assumption | omega | exact decide_eq_true rfl | ((simp only [tC, decide_eq_true_eq, decide_eq_false_iff_not]); omega))); (fail_if_success (focus skip)))) ?_ | refine mP_cmpF rfl (by ((apply tXT); (repeat' (first | with_reducible apply tt_rem | with_reducible apply tt_div | with_reducible apply tt_and1 | with_reducible apply tt_add | with_reducible apply tt_sub | with_reducible apply tt_mul | with_reducible apply tt_neg | with_reducible refine nI_toInt ?_ | with_reducible refine iI_toInt ?_ ?_ | with_reducible exact tz0 | with_reducible assumption | omega | exact decide_eq_true rfl | ((simp only [tC, decide_eq_true_eq, decide_eq_false_iff_not]); omega))); (fail_if_success (focus skip)))) ?_) | ((show mP _ _ _ _ (Value.int _ :: _) _ _); first | refine mP_ifT rfl (by ((apply tXT); (repeat' (first | with_reducible apply tt_rem | with_reducible apply tt_div | with_reducible apply tt_and1 | with_reducible apply tt_add | with_reducible apply tt_sub | with_reducible apply tt_mul | with_reducible apply tt_neg | with_reducible refine nI_toInt ?_ | with_reducible refine iI_toInt ?_ ?_ | with_reducible exact tz0 | with_reducible assumption | omega | exact decide_eq_true rfl | ((simp only [tC, decide_eq_true_eq, decide_eq_false_iff_not]); omega))); (fail_if_success (focus skip)))) ?_ | refine mP_ifF rfl (by ((apply tXT); (repeat' (first | with_reducible apply tt_rem | with_reducible apply tt_div | with_reducible apply tt_and1 | with_reducible apply tt_add | with_reducible apply tt_sub | with_reducible apply tt_mul | with_reducible apply tt_neg | with_reducible refine nI_toInt ?_ | with_reducible refine iI_toInt ?_ ?_ | with_reducible exact tz0 | with_reducible assumption | omega | exact decide_eq_true rfl | ((simp only [tC, decide_eq_true_eq, decide_eq_false_iff_not]); omega))); (fail_if_success (focus skip)))) ?_))); (try dsimp only))
  refine mP_laS (j := 16 * i + k) rfl k23 (by ((repeat' (first | with_reducible apply tt_rem | with_reducible apply tt_div | with_reducible apply tt_and1 | with_reducible apply tt_add | with_reducible apply tt_sub | with_reducible apply tt_mul | with_reducible apply tt_neg | with_reducible refine nI_toInt ?_ | with_reducible refine iI_toInt ?_ ?_ | with_reducible exact tz0 | with_reducible assumption | omega)); (fail_if_success (focus skip)))) (by omega) (by omega) (by decide) ?_
  exact mP_ret rfl rfl ⟨rfl, rfl⟩
theorem sp_find {d : Nat} {M : mM} {p R g L : Nat} {op co md : Nat → Nat → Int} (hO : mOK M) (hS : pS p R g op co md) (hC : pC p R g L op co md M) (hR16 : R < 16) : ∃ M2, mR (d + 22) mPaired_findPairing [.ref 12] M (some (.int (bI (decide (0 ≤ LC (prP p R op co md) (T0P p g)))))) M2 ∧ (Fr [20, 21, 22, 23, 24] [] M M2 ∧ (0 ≤ LC (prP p R op co md) (T0P p g) → ∃ m e, FE p g m e ∧ mi M2 20 4 = nI m ∧ (∀ i, i < m → mi M2 21 i = nI (e i)) ∧ ml M2 20 5 = lI (LC (prP p R op co md) (T0P p g)) ∧ ∀ i, i < m → ∃ j, j < m ∧ mi M2 22 i = nI j ∧ e j = MT (prP p R op co md) (T0P p g) (e i))) := by
  obtain ⟨hp0, hp, hR, hg, hgp, hcl, hds, hin⟩ := id hS
  have hB := prP_bd hS
  generalize hpr : prP p R op co md = pr at *
  apply mP_ex
  generalize hQ : (fun o M2 => o = Sum.inl (some (Value.int (bI (decide (0 ≤ LC pr (T0P p g)))))) ∧ (Fr [20, 21, 22, 23, 24] [] M M2 ∧ (0 ≤ LC pr (T0P p g) → ∃ m e, FE p g m e ∧ mi M2 20 4 = nI m ∧ (∀ i, i < m → mi M2 21 i = nI (e i)) ∧ ml M2 20 5 = lI (LC pr (T0P p g)) ∧ ∀ i, i < m → ∃ j, j < m ∧ mi M2 22 i = nI j ∧ e j = MT pr (T0P p g) (e i)))) = Q
  have get : ∀ M', Fr [20, 21, 23] [] M M' → mOK M' ∧ pC p R g L op co md M' := fun M' hf => ⟨hf.ok hO, hC.of (hf.gi 12) (hf.gl 12) (hf.gi 13) (hf.gi 14) (hf.gi 15) (hf.gi 16) (hf.gi 17) (hf.gi 18)⟩
  -- prices
  have P : ∀ m e, FE p g m e → ∀ f i M' (x2 : Value), i + f = m → Fr [20, 21, 23] [] M M' → mi M' 20 4 = nI m → (∀ i, i < m → mi M' 21 i = nI (e i)) → (∀ a b, a < b → b < m → a < i → ml M' 23 (16 * a + b) = lI (pr (e a) (e b))) → mP (d + 22) mPaired_findPairing 70 [.ref 12, .int (nI i), x2] [] M' Q := by
    intro m e hFE f
    obtain ⟨hm, hev, hmn, him⟩ := id hFE
    obtain ⟨hm16, hm2, hm3⟩ := id hm
    induction f with
    | zero =>
      intro i M' x2 hi hf h4 h21 h23
      have e1 : i = m := by omega
      subst e1
      obtain ⟨hO', hC'⟩ := get M' hf
      have k12 : mKd M' 12 = (4, 12) := hO'.k 12
      have k20 : mKd M' 20 = (3, 6) := hO'.k 20
      have r20 : mr M' 12 7 = some 20 := hO'.r 12 7 20
      obtain ⟨M2, hs, f2, e20, hrest⟩ := sp_solve (d := d) (M := M') hm hB hev (hFE.im hp) (pc_all hm16) ⟨hO', h4, fun a b h1 h2 => h23 a b h1 h2 (by omega)⟩
      (repeat (first | refine mP_go rfl rfl ?_ | ((show mP _ _ _ _ (Value.ref _ :: _) _ _); first | refine mP_getIv rfl (by assumption) (by assumption) ?_ | refine mP_getI rfl (by assumption) ?_ | refine mP_getR rfl (by assumption) (by assumption) ?_ | refine mP_getLv rfl (by assumption) (by assumption) ?_ | refine mP_getL rfl (by assumption) ?_) | ((show mP _ _ _ _ (_ :: Value.ref _ :: _) _ _); first | refine mP_putI rfl (by assumption) ?_ | refine mP_putL rfl (by assumption) ?_)); (try dsimp only))
      refine mP_V rfl rfl (by assumption) rfl (sp_msize hO' h4) ?_
      (repeat (first | refine mP_go rfl rfl ?_ | ((show mP _ _ _ _ (Value.ref _ :: _) _ _); first | refine mP_getIv rfl (by assumption) (by assumption) ?_ | refine mP_getI rfl (by assumption) ?_ | refine mP_getR rfl (by assumption) (by assumption) ?_ | refine mP_getLv rfl (by assumption) (by assumption) ?_ | refine mP_getL rfl (by assumption) ?_) | ((show mP _ _ _ _ (_ :: Value.ref _ :: _) _ _); first | refine mP_putI rfl (by assumption) ?_ | refine mP_putL rfl (by assumption) ?_) | (first | ((show mP _ _ _ _ (Value.int _ :: Value.int _ :: _) _ _); first | refine mP_cmpT rfl (by ((apply tXT); (repeat' (first | with_reducible apply tt_rem | with_reducible apply tt_div | with_reducible apply tt_and1 | with_reducible apply tt_add | with_reducible apply tt_sub | with_reducible apply tt_mul | with_reducible apply tt_neg | with_reducible refine nI_toInt ?_ | with_reducible refine iI_toInt ?_ ?_ | with_reducible exact tz0 | with_reducible assumption | omega | exact decide_eq_true rfl | ((simp only [tC, decide_eq_true_eq, decide_eq_false_iff_not]); omega))); (fail_if_success (focus skip)))) ?_ | refine mP_cmpF rfl (by ((apply tXT); (repeat' (first | with_reducible apply tt_rem | with_reducible apply tt_div | with_reducible apply tt_and1 | with_reducible apply tt_add | with_reducible apply tt_sub | with_reducible apply tt_mul | with_reducible apply tt_neg | with_reducible refine nI_toInt ?_ | with_reducible refine iI_toInt ?_ ?_ | with_reducible exact tz0 | with_reducible assumption | omega | exact decide_eq_true rfl | ((simp only [tC, decide_eq_true_eq, decide_eq_false_iff_not]); omega))); (fail_if_success (focus skip)))) ?_) | ((show mP _ _ _ _ (Value.int _ :: _) _ _); first | refine mP_ifT rfl (by ((apply tXT); (repeat' (first | with_reducible apply tt_rem | with_reducible apply tt_div | with_reducible apply tt_and1 | with_reducible apply tt_add | with_reducible apply tt_sub | with_reducible apply tt_mul | with_reducible apply tt_neg | with_reducible refine nI_toInt ?_ | with_reducible refine iI_toInt ?_ ?_ | with_reducible exact tz0 | with_reducible assumption | omega | exact decide_eq_true rfl | ((simp only [tC, decide_eq_true_eq, decide_eq_false_iff_not]); omega))); (fail_if_success (focus skip)))) ?_ | refine mP_ifF rfl (by ((apply tXT); (repeat' (first | with_reducible apply tt_rem | with_reducible apply tt_div | with_reducible apply tt_and1 | with_reducible apply tt_add | with_reducible apply tt_sub | with_reducible apply tt_mul | with_reducible apply tt_neg | with_reducible refine nI_toInt ?_ | with_reducible refine iI_toInt ?_ ?_ | with_reducible exact tz0 | with_reducible assumption | omega | exact decide_eq_true rfl | ((simp only [tC, decide_eq_true_eq, decide_eq_false_iff_not]); omega))); (fail_if_success (focus skip)))) ?_))); (try dsimp only))
      refine mP_V rfl rfl (by assumption) rfl hs ?_
      rw [← hQ]
      refine mP_retB rfl rfl (bI_01 _) ⟨rfl, (hf.trans f2).weaken (by decide) (by decide), fun hL => ?_⟩
      obtain ⟨q1, q2⟩ := hrest hL
      exact ⟨i, e, hFE, by rw [e20]; exact h4, fun j hj => by rw [f2.gi 21]; exact h21 j hj, q1, q2⟩
    | succ f ih =>
      intro i M' x2 hi hf h4 h21 h23
      obtain ⟨hO', hC'⟩ := get M' hf
      have k12 : mKd M' 12 = (4, 12) := hO'.k 12
      have k20 : mKd M' 20 = (3, 6) := hO'.k 20
      have r20 : mr M' 12 7 = some 20 := hO'.r 12 7 20
      have PI : ∀ g2 k M3, k + g2 = m → i < k → Fr [20, 21, 23] [] M M3 → mi M3 20 4 = nI m → (∀ i, i < m → mi M3 21 i = nI (e i)) → (∀ a b, a < b → b < m → (a < i ∨ (a = i ∧ b < k)) → ml M3 23 (16 * a + b) = lI (pr (e a) (e b))) → mP (d + 22) mPaired_findPairing 85 [.ref 12, .int (nI i), .int (nI k)] [] M3 Q := by
        intro g2
        induction g2 with
        | zero =>
          intro k M3 hk hik hf3 h43 h213 h233
          have e1 : k = m := by omega
          subst e1
          obtain ⟨hO3, hC3⟩ := get M3 hf3
          have k123 : mKd M3 12 = (4, 12) := hO3.k 12
          have k203 : mKd M3 20 = (3, 6) := hO3.k 20
          have r203 : mr M3 12 7 = some 20 := hO3.r 12 7 20
          (repeat (first | refine mP_go rfl rfl ?_ | ((show mP _ _ _ _ (Value.ref _ :: _) _ _); first | refine mP_getIv rfl (by assumption) (by assumption) ?_ | refine mP_getI rfl (by assumption) ?_ | refine mP_getR rfl (by assumption) (by assumption) ?_ | refine mP_getLv rfl (by assumption) (by assumption) ?_ | refine mP_getL rfl (by assumption) ?_) | ((show mP _ _ _ _ (_ :: Value.ref _ :: _) _ _); first | refine mP_putI rfl (by assumption) ?_ | refine mP_putL rfl (by assumption) ?_)); (try dsimp only))
          refine mP_V rfl rfl (by assumption) rfl (sp_msize hO3 h43) ?_
          (repeat (fail_if_success (show mP _ _ 70 _ _ _ _)); (first | refine mP_go rfl rfl ?_ | ((show mP _ _ _ _ (Value.ref _ :: _) _ _); first | refine mP_getIv rfl (by assumption) (by assumption) ?_ | refine mP_getI rfl (by assumption) ?_ | refine mP_getR rfl (by assumption) (by assumption) ?_ | refine mP_getLv rfl (by assumption) (by assumption) ?_ | refine mP_getL rfl (by assumption) ?_) | ((show mP _ _ _ _ (_ :: Value.ref _ :: _) _ _); first | refine mP_putI rfl (by assumption) ?_ | refine mP_putL rfl (by assumption) ?_) | (first | ((show mP _ _ _ _ (Value.int _ :: Value.int _ :: _) _ _); first | refine mP_cmpT rfl (by ((apply tXT); (repeat' (first | with_reducible apply tt_rem | with_reducible apply tt_div | with_reducible apply tt_and1 | with_reducible apply tt_add | with_reducible apply tt_sub | with_reducible apply tt_mul | with_reducible apply tt_neg | with_reducible refine nI_toInt ?_ | with_reducible refine iI_toInt ?_ ?_ | with_reducible exact tz0 | with_reducible assumption | omega | exact decide_eq_true rfl | ((simp only [tC, decide_eq_true_eq, decide_eq_false_iff_not]); omega))); (fail_if_success (focus skip)))) ?_ | refine mP_cmpF rfl (by ((apply tXT); (repeat' (first | with_reducible apply tt_rem | with_reducible apply tt_div | with_reducible apply tt_and1 | with_reducible apply tt_add | with_reducible apply tt_sub | with_reducible apply tt_mul | with_reducible apply tt_neg | with_reducible refine nI_toInt ?_ | with_reducible refine iI_toInt ?_ ?_ | with_reducible exact tz0 | with_reducible assumption | omega | exact decide_eq_true rfl | ((simp only [tC, decide_eq_true_eq, decide_eq_false_iff_not]); omega))); (fail_if_success (focus skip)))) ?_) | ((show mP _ _ _ _ (Value.int _ :: _) _ _); first | refine mP_ifT rfl (by ((apply tXT); (repeat' (first | with_reducible apply tt_rem | with_reducible apply tt_div | with_reducible apply tt_and1 | with_reducible apply tt_add | with_reducible apply tt_sub | with_reducible apply tt_mul | with_reducible apply tt_neg | with_reducible refine nI_toInt ?_ | with_reducible refine iI_toInt ?_ ?_ | with_reducible exact tz0 | with_reducible assumption | omega | exact decide_eq_true rfl | ((simp only [tC, decide_eq_true_eq, decide_eq_false_iff_not]); omega))); (fail_if_success (focus skip)))) ?_ | refine mP_ifF rfl (by ((apply tXT); (repeat' (first | with_reducible apply tt_rem | with_reducible apply tt_div | with_reducible apply tt_and1 | with_reducible apply tt_add | with_reducible apply tt_sub | with_reducible apply tt_mul | with_reducible apply tt_neg | with_reducible refine nI_toInt ?_ | with_reducible refine iI_toInt ?_ ?_ | with_reducible exact tz0 | with_reducible assumption | omega | exact decide_eq_true rfl | ((simp only [tC, decide_eq_true_eq, decide_eq_false_iff_not]); omega))); (fail_if_success (focus skip)))) ?_))); (try dsimp only))
          rw [nI_inc]
          exact ih (i + 1) M3 _ (by omega) hf3 h43 h213 (fun a b h1 h2 h3 => h233 a b h1 h2 (by omega))
        | succ g2 ihk =>
          intro k M3 hk hik hf3 h43 h213 h233
          obtain ⟨hO3, hC3⟩ := get M3 hf3
          have k123 : mKd M3 12 = (4, 12) := hO3.k 12
          have k203 : mKd M3 20 = (3, 6) := hO3.k 20
          have r203 : mr M3 12 7 = some 20 := hO3.r 12 7 20
          have hlt := hm3 i k hik (by omega)
          have hai : e i < p := by
            rcases hFE.le (show i < m by omega) with q | ⟨q, -⟩
            · exact (inB_lt q).1
            · have := hm2 k (by omega); omega
          have hbk : e k < p ∨ e k = 16 := by
            rcases hFE.le (show k < m by omega) with q | ⟨q, -⟩
            · exact Or.inl (inB_lt q).1
            · exact Or.inr q
          have hprc := sp_priceOf (d := d + 20) hO3 hS hC3 hai hlt hbk
          rw [hpr] at hprc
          (repeat (first | refine mP_go rfl rfl ?_ | ((show mP _ _ _ _ (Value.ref _ :: _) _ _); first | refine mP_getIv rfl (by assumption) (by assumption) ?_ | refine mP_getI rfl (by assumption) ?_ | refine mP_getR rfl (by assumption) (by assumption) ?_ | refine mP_getLv rfl (by assumption) (by assumption) ?_ | refine mP_getL rfl (by assumption) ?_) | ((show mP _ _ _ _ (_ :: Value.ref _ :: _) _ _); first | refine mP_putI rfl (by assumption) ?_ | refine mP_putL rfl (by assumption) ?_)); (try dsimp only))
          refine mP_V rfl rfl (by assumption) rfl (sp_msize hO3 h43) ?_
          (repeat (first | refine mP_go rfl rfl ?_ | ((show mP _ _ _ _ (Value.ref _ :: _) _ _); first | refine mP_getIv rfl (by assumption) (by assumption) ?_ | refine mP_getI rfl (by assumption) ?_ | refine mP_getR rfl (by assumption) (by assumption) ?_ | refine mP_getLv rfl (by assumption) (by assumption) ?_ | refine mP_getL rfl (by assumption) ?_) | ((show mP _ _ _ _ (_ :: Value.ref _ :: _) _ _); first | refine mP_putI rfl (by assumption) ?_ | refine mP_putL rfl (by assumption) ?_) | (first | ((show mP _ _ _ _ (Value.int _ :: Value.int _ :: _) _ _); first | refine mP_cmpT rfl (by ((apply tXT); (repeat' (first | with_reducible apply tt_rem | with_reducible apply tt_div | with_reducible apply tt_and1 | with_reducible apply tt_add | with_reducible apply tt_sub | with_reducible apply tt_mul | with_reducible apply tt_neg | with_reducible refine nI_toInt ?_ | with_reducible refine iI_toInt ?_ ?_ | with_reducible exact tz0 | with_reducible assumption | omega | exact decide_eq_true rfl | ((simp only [tC, decide_eq_true_eq, decide_eq_false_iff_not]); omega))); (fail_if_success (focus skip)))) ?_ | refine mP_cmpF rfl (by ((apply tXT); (repeat' (first | with_reducible apply tt_rem | with_reducible apply tt_div | with_reducible apply tt_and1 | with_reducible apply tt_add | with_reducible apply tt_sub | with_reducible apply tt_mul | with_reducible apply tt_neg | with_reducible refine nI_toInt ?_ | with_reducible refine iI_toInt ?_ ?_ | with_reducible exact tz0 | with_reducible assumption | omega | exact decide_eq_true rfl | ((simp only [tC, decide_eq_true_eq, decide_eq_false_iff_not]); omega))); (fail_if_success (focus skip)))) ?_) | ((show mP _ _ _ _ (Value.int _ :: _) _ _); first | refine mP_ifT rfl (by ((apply tXT); (repeat' (first | with_reducible apply tt_rem | with_reducible apply tt_div | with_reducible apply tt_and1 | with_reducible apply tt_add | with_reducible apply tt_sub | with_reducible apply tt_mul | with_reducible apply tt_neg | with_reducible refine nI_toInt ?_ | with_reducible refine iI_toInt ?_ ?_ | with_reducible exact tz0 | with_reducible assumption | omega | exact decide_eq_true rfl | ((simp only [tC, decide_eq_true_eq, decide_eq_false_iff_not]); omega))); (fail_if_success (focus skip)))) ?_ | refine mP_ifF rfl (by ((apply tXT); (repeat' (first | with_reducible apply tt_rem | with_reducible apply tt_div | with_reducible apply tt_and1 | with_reducible apply tt_add | with_reducible apply tt_sub | with_reducible apply tt_mul | with_reducible apply tt_neg | with_reducible refine nI_toInt ?_ | with_reducible refine iI_toInt ?_ ?_ | with_reducible exact tz0 | with_reducible assumption | omega | exact decide_eq_true rfl | ((simp only [tC, decide_eq_true_eq, decide_eq_false_iff_not]); omega))); (fail_if_success (focus skip)))) ?_))); (try dsimp only))
          refine mP_V rfl rfl (by assumption) rfl (sp_playerOf hO3 h43 hm16 (show i < m by omega) (h213 i (by omega))) ?_
          (repeat (first | refine mP_go rfl rfl ?_ | ((show mP _ _ _ _ (Value.ref _ :: _) _ _); first | refine mP_getIv rfl (by assumption) (by assumption) ?_ | refine mP_getI rfl (by assumption) ?_ | refine mP_getR rfl (by assumption) (by assumption) ?_ | refine mP_getLv rfl (by assumption) (by assumption) ?_ | refine mP_getL rfl (by assumption) ?_) | ((show mP _ _ _ _ (_ :: Value.ref _ :: _) _ _); first | refine mP_putI rfl (by assumption) ?_ | refine mP_putL rfl (by assumption) ?_)); (try dsimp only))
          refine mP_V rfl rfl (by assumption) rfl (sp_playerOf hO3 h43 hm16 (show k < m by omega) (h213 k (by omega))) ?_
          (repeat (first | refine mP_go rfl rfl ?_ | ((show mP _ _ _ _ (Value.ref _ :: _) _ _); first | refine mP_getIv rfl (by assumption) (by assumption) ?_ | refine mP_getI rfl (by assumption) ?_ | refine mP_getR rfl (by assumption) (by assumption) ?_ | refine mP_getLv rfl (by assumption) (by assumption) ?_ | refine mP_getL rfl (by assumption) ?_) | ((show mP _ _ _ _ (_ :: Value.ref _ :: _) _ _); first | refine mP_putI rfl (by assumption) ?_ | refine mP_putL rfl (by assumption) ?_)); (try dsimp only))
          refine mP_V rfl rfl (by assumption) rfl hprc ?_
          refine mP_V rfl rfl (by assumption) rfl (sp_setPrice hO3 h43 hm16 hik (by omega)) ?_
          (repeat (fail_if_success (show mP _ _ 85 _ _ _ _)); (first | refine mP_go rfl rfl ?_ | ((show mP _ _ _ _ (Value.ref _ :: _) _ _); first | refine mP_getIv rfl (by assumption) (by assumption) ?_ | refine mP_getI rfl (by assumption) ?_ | refine mP_getR rfl (by assumption) (by assumption) ?_ | refine mP_getLv rfl (by assumption) (by assumption) ?_ | refine mP_getL rfl (by assumption) ?_) | ((show mP _ _ _ _ (_ :: Value.ref _ :: _) _ _); first | refine mP_putI rfl (by assumption) ?_ | refine mP_putL rfl (by assumption) ?_) | (first | ((show mP _ _ _ _ (Value.int _ :: Value.int _ :: _) _ _); first | refine mP_cmpT rfl (by ((apply tXT); (repeat' (first | with_reducible apply tt_rem | with_reducible apply tt_div | with_reducible apply tt_and1 | with_reducible apply tt_add | with_reducible apply tt_sub | with_reducible apply tt_mul | with_reducible apply tt_neg | with_reducible refine nI_toInt ?_ | with_reducible refine iI_toInt ?_ ?_ | with_reducible exact tz0 | with_reducible assumption | omega | exact decide_eq_true rfl | ((simp only [tC, decide_eq_true_eq, decide_eq_false_iff_not]); omega))); (fail_if_success (focus skip)))) ?_ | refine mP_cmpF rfl (by ((apply tXT); (repeat' (first | with_reducible apply tt_rem | with_reducible apply tt_div | with_reducible apply tt_and1 | with_reducible apply tt_add | with_reducible apply tt_sub | with_reducible apply tt_mul | with_reducible apply tt_neg | with_reducible refine nI_toInt ?_ | with_reducible refine iI_toInt ?_ ?_ | with_reducible exact tz0 | with_reducible assumption | omega | exact decide_eq_true rfl | ((simp only [tC, decide_eq_true_eq, decide_eq_false_iff_not]); omega))); (fail_if_success (focus skip)))) ?_) | ((show mP _ _ _ _ (Value.int _ :: _) _ _); first | refine mP_ifT rfl (by ((apply tXT); (repeat' (first | with_reducible apply tt_rem | with_reducible apply tt_div | with_reducible apply tt_and1 | with_reducible apply tt_add | with_reducible apply tt_sub | with_reducible apply tt_mul | with_reducible apply tt_neg | with_reducible refine nI_toInt ?_ | with_reducible refine iI_toInt ?_ ?_ | with_reducible exact tz0 | with_reducible assumption | omega | exact decide_eq_true rfl | ((simp only [tC, decide_eq_true_eq, decide_eq_false_iff_not]); omega))); (fail_if_success (focus skip)))) ?_ | refine mP_ifF rfl (by ((apply tXT); (repeat' (first | with_reducible apply tt_rem | with_reducible apply tt_div | with_reducible apply tt_and1 | with_reducible apply tt_add | with_reducible apply tt_sub | with_reducible apply tt_mul | with_reducible apply tt_neg | with_reducible refine nI_toInt ?_ | with_reducible refine iI_toInt ?_ ?_ | with_reducible exact tz0 | with_reducible assumption | omega | exact decide_eq_true rfl | ((simp only [tC, decide_eq_true_eq, decide_eq_false_iff_not]); omega))); (fail_if_success (focus skip)))) ?_))); (try dsimp only))
          rw [nI_inc]
          refine ihk (k + 1) _ (by omega) (by omega) (hf3.putL _) h43 h213 (fun a b h1 h2 h3 => ?_)
          show va_up (ml M3 23) (16 * i + k) _ (16 * a + b) = _
          by_cases c : a = i ∧ b = k
          · rw [c.1, c.2, mU_eq]
          · rw [mU_ne (by omega)]
            exact h233 a b h1 h2 (by omega)
      (repeat (first | refine mP_go rfl rfl ?_ | ((show mP _ _ _ _ (Value.ref _ :: _) _ _); first | refine mP_getIv rfl (by assumption) (by assumption) ?_ | refine mP_getI rfl (by assumption) ?_ | refine mP_getR rfl (by assumption) (by assumption) ?_ | refine mP_getLv rfl (by assumption) (by assumption) ?_ | refine mP_getL rfl (by assumption) ?_) | ((show mP _ _ _ _ (_ :: Value.ref _ :: _) _ _); first | refine mP_putI rfl (by assumption) ?_ | refine mP_putL rfl (by assumption) ?_)); (try dsimp only))
      refine mP_V rfl rfl (by assumption) rfl (sp_msize hO' h4) ?_
      (repeat (fail_if_success (show mP _ _ 85 _ _ _ _)); (first | refine mP_go rfl rfl ?_ | ((show mP _ _ _ _ (Value.ref _ :: _) _ _); first | refine mP_getIv rfl (by assumption) (by assumption) ?_ | refine mP_getI rfl (by assumption) ?_ | refine mP_getR rfl (by assumption) (by assumption) ?_ | refine mP_getLv rfl (by assumption) (by assumption) ?_ | refine mP_getL rfl (by assumption) ?_) | ((show mP _ _ _ _ (_ :: Value.ref _ :: _) _ _); first | refine mP_putI rfl (by assumption) ?_ | refine mP_putL rfl (by assumption) ?_) | (first | ((show mP _ _ _ _ (Value.int _ :: Value.int _ :: _) _ _); first | refine mP_cmpT rfl (by ((apply tXT); (repeat' (first | with_reducible apply tt_rem | with_reducible apply tt_div | with_reducible apply tt_and1 | with_reducible apply tt_add | with_reducible apply tt_sub | with_reducible apply tt_mul | with_reducible apply tt_neg | with_reducible refine nI_toInt ?_ | with_reducible refine iI_toInt ?_ ?_ | with_reducible exact tz0 | with_reducible assumption | omega | exact decide_eq_true rfl | ((simp only [tC, decide_eq_true_eq, decide_eq_false_iff_not]); omega))); (fail_if_success (focus skip)))) ?_ | refine mP_cmpF rfl (by ((apply tXT); (repeat' (first | with_reducible apply tt_rem | with_reducible apply tt_div | with_reducible apply tt_and1 | with_reducible apply tt_add | with_reducible apply tt_sub | with_reducible apply tt_mul | with_reducible apply tt_neg | with_reducible refine nI_toInt ?_ | with_reducible refine iI_toInt ?_ ?_ | with_reducible exact tz0 | with_reducible assumption | omega | exact decide_eq_true rfl | ((simp only [tC, decide_eq_true_eq, decide_eq_false_iff_not]); omega))); (fail_if_success (focus skip)))) ?_) | ((show mP _ _ _ _ (Value.int _ :: _) _ _); first | refine mP_ifT rfl (by ((apply tXT); (repeat' (first | with_reducible apply tt_rem | with_reducible apply tt_div | with_reducible apply tt_and1 | with_reducible apply tt_add | with_reducible apply tt_sub | with_reducible apply tt_mul | with_reducible apply tt_neg | with_reducible refine nI_toInt ?_ | with_reducible refine iI_toInt ?_ ?_ | with_reducible exact tz0 | with_reducible assumption | omega | exact decide_eq_true rfl | ((simp only [tC, decide_eq_true_eq, decide_eq_false_iff_not]); omega))); (fail_if_success (focus skip)))) ?_ | refine mP_ifF rfl (by ((apply tXT); (repeat' (first | with_reducible apply tt_rem | with_reducible apply tt_div | with_reducible apply tt_and1 | with_reducible apply tt_add | with_reducible apply tt_sub | with_reducible apply tt_mul | with_reducible apply tt_neg | with_reducible refine nI_toInt ?_ | with_reducible refine iI_toInt ?_ ?_ | with_reducible exact tz0 | with_reducible assumption | omega | exact decide_eq_true rfl | ((simp only [tC, decide_eq_true_eq, decide_eq_false_iff_not]); omega))); (fail_if_success (focus skip)))) ?_))); (try dsimp only))
      rw [nI_inc]
      exact PI (m - (i + 1)) (i + 1) M' (by omega) (by omega) hf h4 h21 (fun a b h1 h2 h3 => h23 a b h1 h2 (by omega))
  -- entering
  have E : ∀ f k M' e (x2 : Value), k + f = p → Fr [20, 21, 23] [] M M' → mi M' 20 4 = nI (cnB (inB p g) k) → (∀ i, i < cnB (inB p g) k → mi M' 21 i = nI (e i)) → ekP (inB p g) k (cnB (inB p g) k) e → mP (d + 22) mPaired_findPairing 20 [.ref 12, .int (nI k), x2] [] M' Q := by
    intro f
    induction f with
    | zero =>
      intro k M' e x2 hk hf h4 h21 hek
      have e1 : k = p := by omega
      subst e1
      obtain ⟨hO', hC'⟩ := get M' hf
      obtain ⟨h8, h9, h10, -⟩ := id hC'
      have k12 : mKd M' 12 = (4, 12) := hO'.k 12
      have k20 : mKd M' 20 = (3, 6) := hO'.k 20
      have r20 : mr M' 12 7 = some 20 := hO'.r 12 7 20
      obtain ⟨e2, e3, e4⟩ := hek
      have hnk : cnB (inB k g) k = nIn k g := rfl
      have hle := cnB_k (inB k g) k
      rw [hnk] at h4 h21 e2 e3 e4 hle
      have hmono : ∀ i, i < nIn k g → e i < k := e2
      (repeat (first | refine mP_go rfl rfl ?_ | ((show mP _ _ _ _ (Value.ref _ :: _) _ _); first | refine mP_getIv rfl (by assumption) (by assumption) ?_ | refine mP_getI rfl (by assumption) ?_ | refine mP_getR rfl (by assumption) (by assumption) ?_ | refine mP_getLv rfl (by assumption) (by assumption) ?_ | refine mP_getL rfl (by assumption) ?_) | ((show mP _ _ _ _ (_ :: Value.ref _ :: _) _ _); first | refine mP_putI rfl (by assumption) ?_ | refine mP_putL rfl (by assumption) ?_) | (first | ((show mP _ _ _ _ (Value.int _ :: Value.int _ :: _) _ _); first | refine mP_cmpT rfl (by ((apply tXT); (repeat' (first | with_reducible apply tt_rem | with_reducible apply tt_div | with_reducible apply tt_and1 | with_reducible apply tt_add | with_reducible apply tt_sub | with_reducible apply tt_mul | with_reducible apply tt_neg | with_reducible refine nI_toInt ?_ | with_reducible refine iI_toInt ?_ ?_ | with_reducible exact tz0 | with_reducible assumption | omega | exact decide_eq_true rfl | ((simp only [tC, decide_eq_true_eq, decide_eq_false_iff_not]); omega))); (fail_if_success (focus skip)))) ?_ | refine mP_cmpF rfl (by ((apply tXT); (repeat' (first | with_reducible apply tt_rem | with_reducible apply tt_div | with_reducible apply tt_and1 | with_reducible apply tt_add | with_reducible apply tt_sub | with_reducible apply tt_mul | with_reducible apply tt_neg | with_reducible refine nI_toInt ?_ | with_reducible refine iI_toInt ?_ ?_ | with_reducible exact tz0 | with_reducible assumption | omega | exact decide_eq_true rfl | ((simp only [tC, decide_eq_true_eq, decide_eq_false_iff_not]); omega))); (fail_if_success (focus skip)))) ?_) | ((show mP _ _ _ _ (Value.int _ :: _) _ _); first | refine mP_ifT rfl (by ((apply tXT); (repeat' (first | with_reducible apply tt_rem | with_reducible apply tt_div | with_reducible apply tt_and1 | with_reducible apply tt_add | with_reducible apply tt_sub | with_reducible apply tt_mul | with_reducible apply tt_neg | with_reducible refine nI_toInt ?_ | with_reducible refine iI_toInt ?_ ?_ | with_reducible exact tz0 | with_reducible assumption | omega | exact decide_eq_true rfl | ((simp only [tC, decide_eq_true_eq, decide_eq_false_iff_not]); omega))); (fail_if_success (focus skip)))) ?_ | refine mP_ifF rfl (by ((apply tXT); (repeat' (first | with_reducible apply tt_rem | with_reducible apply tt_div | with_reducible apply tt_and1 | with_reducible apply tt_add | with_reducible apply tt_sub | with_reducible apply tt_mul | with_reducible apply tt_neg | with_reducible refine nI_toInt ?_ | with_reducible refine iI_toInt ?_ ?_ | with_reducible exact tz0 | with_reducible assumption | omega | exact decide_eq_true rfl | ((simp only [tC, decide_eq_true_eq, decide_eq_false_iff_not]); omega))); (fail_if_success (focus skip)))) ?_))); (try dsimp only))
      refine mP_V rfl rfl (by assumption) rfl (sp_playersIn hO' h8 h10 hp hg hgp) ?_
      (repeat (fail_if_success (show mP _ _ 56 _ _ _ _)); (first | refine mP_go rfl rfl ?_ | ((show mP _ _ _ _ (Value.ref _ :: _) _ _); first | refine mP_getIv rfl (by assumption) (by assumption) ?_ | refine mP_getI rfl (by assumption) ?_ | refine mP_getR rfl (by assumption) (by assumption) ?_ | refine mP_getLv rfl (by assumption) (by assumption) ?_ | refine mP_getL rfl (by assumption) ?_) | ((show mP _ _ _ _ (_ :: Value.ref _ :: _) _ _); first | refine mP_putI rfl (by assumption) ?_ | refine mP_putL rfl (by assumption) ?_) | (first | ((show mP _ _ _ _ (Value.int _ :: Value.int _ :: _) _ _); first | refine mP_cmpT rfl (by ((apply tXT); (repeat' (first | with_reducible apply tt_rem | with_reducible apply tt_div | with_reducible apply tt_and1 | with_reducible apply tt_add | with_reducible apply tt_sub | with_reducible apply tt_mul | with_reducible apply tt_neg | with_reducible refine nI_toInt ?_ | with_reducible refine iI_toInt ?_ ?_ | with_reducible exact tz0 | with_reducible assumption | omega | exact decide_eq_true rfl | ((simp only [tC, decide_eq_true_eq, decide_eq_false_iff_not]); omega))); (fail_if_success (focus skip)))) ?_ | refine mP_cmpF rfl (by ((apply tXT); (repeat' (first | with_reducible apply tt_rem | with_reducible apply tt_div | with_reducible apply tt_and1 | with_reducible apply tt_add | with_reducible apply tt_sub | with_reducible apply tt_mul | with_reducible apply tt_neg | with_reducible refine nI_toInt ?_ | with_reducible refine iI_toInt ?_ ?_ | with_reducible exact tz0 | with_reducible assumption | omega | exact decide_eq_true rfl | ((simp only [tC, decide_eq_true_eq, decide_eq_false_iff_not]); omega))); (fail_if_success (focus skip)))) ?_) | ((show mP _ _ _ _ (Value.int _ :: _) _ _); first | refine mP_ifT rfl (by ((apply tXT); (repeat' (first | with_reducible apply tt_rem | with_reducible apply tt_div | with_reducible apply tt_and1 | with_reducible apply tt_add | with_reducible apply tt_sub | with_reducible apply tt_mul | with_reducible apply tt_neg | with_reducible refine nI_toInt ?_ | with_reducible refine iI_toInt ?_ ?_ | with_reducible exact tz0 | with_reducible assumption | omega | exact decide_eq_true rfl | ((simp only [tC, decide_eq_true_eq, decide_eq_false_iff_not]); omega))); (fail_if_success (focus skip)))) ?_ | refine mP_ifF rfl (by ((apply tXT); (repeat' (first | with_reducible apply tt_rem | with_reducible apply tt_div | with_reducible apply tt_and1 | with_reducible apply tt_add | with_reducible apply tt_sub | with_reducible apply tt_mul | with_reducible apply tt_neg | with_reducible refine nI_toInt ?_ | with_reducible refine iI_toInt ?_ ?_ | with_reducible exact tz0 | with_reducible assumption | omega | exact decide_eq_true rfl | ((simp only [tC, decide_eq_true_eq, decide_eq_false_iff_not]); omega))); (fail_if_success (focus skip)))) ?_))); (try dsimp only))
      rw [show iI 1 = nI 1 from rfl, nI_and1]
      by_cases c : nIn k g % 2 = 1
      · rw [c]
        obtain ⟨M2, hen, f2, h42, h212⟩ := sp_enter (d := d + 21) (b := 16) hO' h4 (by omega)
        (repeat (first | refine mP_go rfl rfl ?_ | ((show mP _ _ _ _ (Value.ref _ :: _) _ _); first | refine mP_getIv rfl (by assumption) (by assumption) ?_ | refine mP_getI rfl (by assumption) ?_ | refine mP_getR rfl (by assumption) (by assumption) ?_ | refine mP_getLv rfl (by assumption) (by assumption) ?_ | refine mP_getL rfl (by assumption) ?_) | ((show mP _ _ _ _ (_ :: Value.ref _ :: _) _ _); first | refine mP_putI rfl (by assumption) ?_ | refine mP_putL rfl (by assumption) ?_) | (first | ((show mP _ _ _ _ (Value.int _ :: Value.int _ :: _) _ _); first | refine mP_cmpT rfl (by ((apply tXT); (repeat' (first | with_reducible apply tt_rem | with_reducible apply tt_div | with_reducible apply tt_and1 | with_reducible apply tt_add | with_reducible apply tt_sub | with_reducible apply tt_mul | with_reducible apply tt_neg | with_reducible refine nI_toInt ?_ | with_reducible refine iI_toInt ?_ ?_ | with_reducible exact tz0 | with_reducible assumption | omega | exact decide_eq_true rfl | ((simp only [tC, decide_eq_true_eq, decide_eq_false_iff_not]); omega))); (fail_if_success (focus skip)))) ?_ | refine mP_cmpF rfl (by ((apply tXT); (repeat' (first | with_reducible apply tt_rem | with_reducible apply tt_div | with_reducible apply tt_and1 | with_reducible apply tt_add | with_reducible apply tt_sub | with_reducible apply tt_mul | with_reducible apply tt_neg | with_reducible refine nI_toInt ?_ | with_reducible refine iI_toInt ?_ ?_ | with_reducible exact tz0 | with_reducible assumption | omega | exact decide_eq_true rfl | ((simp only [tC, decide_eq_true_eq, decide_eq_false_iff_not]); omega))); (fail_if_success (focus skip)))) ?_) | ((show mP _ _ _ _ (Value.int _ :: _) _ _); first | refine mP_ifT rfl (by ((apply tXT); (repeat' (first | with_reducible apply tt_rem | with_reducible apply tt_div | with_reducible apply tt_and1 | with_reducible apply tt_add | with_reducible apply tt_sub | with_reducible apply tt_mul | with_reducible apply tt_neg | with_reducible refine nI_toInt ?_ | with_reducible refine iI_toInt ?_ ?_ | with_reducible exact tz0 | with_reducible assumption | omega | exact decide_eq_true rfl | ((simp only [tC, decide_eq_true_eq, decide_eq_false_iff_not]); omega))); (fail_if_success (focus skip)))) ?_ | refine mP_ifF rfl (by ((apply tXT); (repeat' (first | with_reducible apply tt_rem | with_reducible apply tt_div | with_reducible apply tt_and1 | with_reducible apply tt_add | with_reducible apply tt_sub | with_reducible apply tt_mul | with_reducible apply tt_neg | with_reducible refine nI_toInt ?_ | with_reducible refine iI_toInt ?_ ?_ | with_reducible exact tz0 | with_reducible assumption | omega | exact decide_eq_true rfl | ((simp only [tC, decide_eq_true_eq, decide_eq_false_iff_not]); omega))); (fail_if_success (focus skip)))) ?_))); (try dsimp only))
        rw [show iI 16 = nI 16 from rfl]
        refine mP_V rfl rfl (by assumption) rfl hen ?_
        have hFE : FE k g (nIn k g + 1) (va_up e (nIn k g) 16) := by
          refine ⟨⟨by omega, fun i hi => ?_, fun i j hij hj => ?_⟩, by omega, by omega, fun b => ?_⟩
          · by_cases q : i = nIn k g
            · subst q; rw [mU_eq]; omega
            · rw [mU_ne q]; have := e2 i (by omega); omega
          · rw [mU_ne (show i ≠ nIn k g by omega)]
            have hi2 := e2 i (by omega)
            by_cases q : j = nIn k g
            · subst q; rw [mU_eq]; omega
            · rw [mU_ne q]; exact e3 i j hij (by omega)
          · constructor
            · rintro ⟨i, i1, i2⟩
              by_cases q : i = nIn k g
              · subst q; rw [mU_eq] at i2; exact Or.inr ⟨i2.symm, c⟩
              · rw [mU_ne q] at i2; exact Or.inl ((e4 b).mp ⟨i, by omega, i2⟩).2
            · rintro (h | ⟨h, -⟩)
              · obtain ⟨i, i1, i2⟩ := (e4 b).mpr ⟨(inB_lt h).1, h⟩
                exact ⟨i, by omega, by rw [mU_ne (by omega)]; exact i2⟩
              · exact ⟨nIn k g, by omega, by rw [mU_eq, h]⟩
        have hf2 : Fr [20, 21, 23] [] M M2 := (hf.trans f2).weaken (by decide) (by decide)
        (repeat (fail_if_success (show mP _ _ 70 _ _ _ _)); (first | refine mP_go rfl rfl ?_ | ((show mP _ _ _ _ (Value.ref _ :: _) _ _); first | refine mP_getIv rfl (by assumption) (by assumption) ?_ | refine mP_getI rfl (by assumption) ?_ | refine mP_getR rfl (by assumption) (by assumption) ?_ | refine mP_getLv rfl (by assumption) (by assumption) ?_ | refine mP_getL rfl (by assumption) ?_) | ((show mP _ _ _ _ (_ :: Value.ref _ :: _) _ _); first | refine mP_putI rfl (by assumption) ?_ | refine mP_putL rfl (by assumption) ?_) | (first | ((show mP _ _ _ _ (Value.int _ :: Value.int _ :: _) _ _); first | refine mP_cmpT rfl (by ((apply tXT); (repeat' (first | with_reducible apply tt_rem | with_reducible apply tt_div | with_reducible apply tt_and1 | with_reducible apply tt_add | with_reducible apply tt_sub | with_reducible apply tt_mul | with_reducible apply tt_neg | with_reducible refine nI_toInt ?_ | with_reducible refine iI_toInt ?_ ?_ | with_reducible exact tz0 | with_reducible assumption | omega | exact decide_eq_true rfl | ((simp only [tC, decide_eq_true_eq, decide_eq_false_iff_not]); omega))); (fail_if_success (focus skip)))) ?_ | refine mP_cmpF rfl (by ((apply tXT); (repeat' (first | with_reducible apply tt_rem | with_reducible apply tt_div | with_reducible apply tt_and1 | with_reducible apply tt_add | with_reducible apply tt_sub | with_reducible apply tt_mul | with_reducible apply tt_neg | with_reducible refine nI_toInt ?_ | with_reducible refine iI_toInt ?_ ?_ | with_reducible exact tz0 | with_reducible assumption | omega | exact decide_eq_true rfl | ((simp only [tC, decide_eq_true_eq, decide_eq_false_iff_not]); omega))); (fail_if_success (focus skip)))) ?_) | ((show mP _ _ _ _ (Value.int _ :: _) _ _); first | refine mP_ifT rfl (by ((apply tXT); (repeat' (first | with_reducible apply tt_rem | with_reducible apply tt_div | with_reducible apply tt_and1 | with_reducible apply tt_add | with_reducible apply tt_sub | with_reducible apply tt_mul | with_reducible apply tt_neg | with_reducible refine nI_toInt ?_ | with_reducible refine iI_toInt ?_ ?_ | with_reducible exact tz0 | with_reducible assumption | omega | exact decide_eq_true rfl | ((simp only [tC, decide_eq_true_eq, decide_eq_false_iff_not]); omega))); (fail_if_success (focus skip)))) ?_ | refine mP_ifF rfl (by ((apply tXT); (repeat' (first | with_reducible apply tt_rem | with_reducible apply tt_div | with_reducible apply tt_and1 | with_reducible apply tt_add | with_reducible apply tt_sub | with_reducible apply tt_mul | with_reducible apply tt_neg | with_reducible refine nI_toInt ?_ | with_reducible refine iI_toInt ?_ ?_ | with_reducible exact tz0 | with_reducible assumption | omega | exact decide_eq_true rfl | ((simp only [tC, decide_eq_true_eq, decide_eq_false_iff_not]); omega))); (fail_if_success (focus skip)))) ?_))); (try dsimp only))
        exact P _ _ hFE (nIn k g + 1) 0 M2 _ (by omega) hf2 h42 (fun i hi => by
          rw [h212]
          by_cases q : i = nIn k g
          · subst q; rw [mU_eq, mU_eq]
          · rw [mU_ne q, mU_ne q]; exact h21 i (by omega)) (fun a b _ _ h => by omega)
      · rw [show nIn k g % 2 = 0 by omega]
        have hFE : FE k g (nIn k g) e := by
          refine ⟨⟨by omega, fun i hi => by have := e2 i hi; omega, e3⟩, by omega, by omega, fun b => ?_⟩
          constructor
          · rintro ⟨i, i1, i2⟩; exact Or.inl ((e4 b).mp ⟨i, i1, i2⟩).2
          · rintro (h | ⟨-, h⟩)
            · exact (e4 b).mpr ⟨(inB_lt h).1, h⟩
            · omega
        (repeat (fail_if_success (show mP _ _ 70 _ _ _ _)); (first | refine mP_go rfl rfl ?_ | ((show mP _ _ _ _ (Value.ref _ :: _) _ _); first | refine mP_getIv rfl (by assumption) (by assumption) ?_ | refine mP_getI rfl (by assumption) ?_ | refine mP_getR rfl (by assumption) (by assumption) ?_ | refine mP_getLv rfl (by assumption) (by assumption) ?_ | refine mP_getL rfl (by assumption) ?_) | ((show mP _ _ _ _ (_ :: Value.ref _ :: _) _ _); first | refine mP_putI rfl (by assumption) ?_ | refine mP_putL rfl (by assumption) ?_) | (first | ((show mP _ _ _ _ (Value.int _ :: Value.int _ :: _) _ _); first | refine mP_cmpT rfl (by ((apply tXT); (repeat' (first | with_reducible apply tt_rem | with_reducible apply tt_div | with_reducible apply tt_and1 | with_reducible apply tt_add | with_reducible apply tt_sub | with_reducible apply tt_mul | with_reducible apply tt_neg | with_reducible refine nI_toInt ?_ | with_reducible refine iI_toInt ?_ ?_ | with_reducible exact tz0 | with_reducible assumption | omega | exact decide_eq_true rfl | ((simp only [tC, decide_eq_true_eq, decide_eq_false_iff_not]); omega))); (fail_if_success (focus skip)))) ?_ | refine mP_cmpF rfl (by ((apply tXT); (repeat' (first | with_reducible apply tt_rem | with_reducible apply tt_div | with_reducible apply tt_and1 | with_reducible apply tt_add | with_reducible apply tt_sub | with_reducible apply tt_mul | with_reducible apply tt_neg | with_reducible refine nI_toInt ?_ | with_reducible refine iI_toInt ?_ ?_ | with_reducible exact tz0 | with_reducible assumption | omega | exact decide_eq_true rfl | ((simp only [tC, decide_eq_true_eq, decide_eq_false_iff_not]); omega))); (fail_if_success (focus skip)))) ?_) | ((show mP _ _ _ _ (Value.int _ :: _) _ _); first | refine mP_ifT rfl (by ((apply tXT); (repeat' (first | with_reducible apply tt_rem | with_reducible apply tt_div | with_reducible apply tt_and1 | with_reducible apply tt_add | with_reducible apply tt_sub | with_reducible apply tt_mul | with_reducible apply tt_neg | with_reducible refine nI_toInt ?_ | with_reducible refine iI_toInt ?_ ?_ | with_reducible exact tz0 | with_reducible assumption | omega | exact decide_eq_true rfl | ((simp only [tC, decide_eq_true_eq, decide_eq_false_iff_not]); omega))); (fail_if_success (focus skip)))) ?_ | refine mP_ifF rfl (by ((apply tXT); (repeat' (first | with_reducible apply tt_rem | with_reducible apply tt_div | with_reducible apply tt_and1 | with_reducible apply tt_add | with_reducible apply tt_sub | with_reducible apply tt_mul | with_reducible apply tt_neg | with_reducible refine nI_toInt ?_ | with_reducible refine iI_toInt ?_ ?_ | with_reducible exact tz0 | with_reducible assumption | omega | exact decide_eq_true rfl | ((simp only [tC, decide_eq_true_eq, decide_eq_false_iff_not]); omega))); (fail_if_success (focus skip)))) ?_))); (try dsimp only))
        exact P _ _ hFE (nIn k g) 0 M' _ (by omega) hf h4 h21 (fun a b _ _ h => by omega)
    | succ f ih =>
      intro k M' e x2 hk hf h4 h21 hek
      obtain ⟨hO', hC'⟩ := get M' hf
      obtain ⟨h8, h9, h10, -⟩ := id hC'
      have k12 : mKd M' 12 = (4, 12) := hO'.k 12
      have k20 : mKd M' 20 = (3, 6) := hO'.k 20
      have r20 : mr M' 12 7 = some 20 := hO'.r 12 7 20
      obtain ⟨e2, e3, e4⟩ := hek
      have hle := cnB_k (inB p g) k
      have ec : cnB (inB p g) (k + 1) = cnB (inB p g) k + if inB p g k = true then 1 else 0 := rfl
      have ih2 := ih (k + 1)
      rw [ec] at ih2
      (repeat (first | refine mP_go rfl rfl ?_ | ((show mP _ _ _ _ (Value.ref _ :: _) _ _); first | refine mP_getIv rfl (by assumption) (by assumption) ?_ | refine mP_getI rfl (by assumption) ?_ | refine mP_getR rfl (by assumption) (by assumption) ?_ | refine mP_getLv rfl (by assumption) (by assumption) ?_ | refine mP_getL rfl (by assumption) ?_) | ((show mP _ _ _ _ (_ :: Value.ref _ :: _) _ _); first | refine mP_putI rfl (by assumption) ?_ | refine mP_putL rfl (by assumption) ?_) | (first | ((show mP _ _ _ _ (Value.int _ :: Value.int _ :: _) _ _); first | refine mP_cmpT rfl (by ((apply tXT); (repeat' (first | with_reducible apply tt_rem | with_reducible apply tt_div | with_reducible apply tt_and1 | with_reducible apply tt_add | with_reducible apply tt_sub | with_reducible apply tt_mul | with_reducible apply tt_neg | with_reducible refine nI_toInt ?_ | with_reducible refine iI_toInt ?_ ?_ | with_reducible exact tz0 | with_reducible assumption | omega | exact decide_eq_true rfl | ((simp only [tC, decide_eq_true_eq, decide_eq_false_iff_not]); omega))); (fail_if_success (focus skip)))) ?_ | refine mP_cmpF rfl (by ((apply tXT); (repeat' (first | with_reducible apply tt_rem | with_reducible apply tt_div | with_reducible apply tt_and1 | with_reducible apply tt_add | with_reducible apply tt_sub | with_reducible apply tt_mul | with_reducible apply tt_neg | with_reducible refine nI_toInt ?_ | with_reducible refine iI_toInt ?_ ?_ | with_reducible exact tz0 | with_reducible assumption | omega | exact decide_eq_true rfl | ((simp only [tC, decide_eq_true_eq, decide_eq_false_iff_not]); omega))); (fail_if_success (focus skip)))) ?_) | ((show mP _ _ _ _ (Value.int _ :: _) _ _); first | refine mP_ifT rfl (by ((apply tXT); (repeat' (first | with_reducible apply tt_rem | with_reducible apply tt_div | with_reducible apply tt_and1 | with_reducible apply tt_add | with_reducible apply tt_sub | with_reducible apply tt_mul | with_reducible apply tt_neg | with_reducible refine nI_toInt ?_ | with_reducible refine iI_toInt ?_ ?_ | with_reducible exact tz0 | with_reducible assumption | omega | exact decide_eq_true rfl | ((simp only [tC, decide_eq_true_eq, decide_eq_false_iff_not]); omega))); (fail_if_success (focus skip)))) ?_ | refine mP_ifF rfl (by ((apply tXT); (repeat' (first | with_reducible apply tt_rem | with_reducible apply tt_div | with_reducible apply tt_and1 | with_reducible apply tt_add | with_reducible apply tt_sub | with_reducible apply tt_mul | with_reducible apply tt_neg | with_reducible refine nI_toInt ?_ | with_reducible refine iI_toInt ?_ ?_ | with_reducible exact tz0 | with_reducible assumption | omega | exact decide_eq_true rfl | ((simp only [tC, decide_eq_true_eq, decide_eq_false_iff_not]); omega))); (fail_if_success (focus skip)))) ?_))); (try dsimp only))
      refine mP_V rfl rfl (by assumption) rfl (sp_isGone hO' h10 hg (show k < 31 by omega)) ?_
      cases cg : g.testBit k with
      | true =>
        have hb : inB p g k = false := by unfold inB; rw [cg]; simp
        rw [hb, if_neg (by decide)] at ih2
        (repeat (fail_if_success (show mP _ _ 20 _ _ _ _)); (first | refine mP_go rfl rfl ?_ | ((show mP _ _ _ _ (Value.ref _ :: _) _ _); first | refine mP_getIv rfl (by assumption) (by assumption) ?_ | refine mP_getI rfl (by assumption) ?_ | refine mP_getR rfl (by assumption) (by assumption) ?_ | refine mP_getLv rfl (by assumption) (by assumption) ?_ | refine mP_getL rfl (by assumption) ?_) | ((show mP _ _ _ _ (_ :: Value.ref _ :: _) _ _); first | refine mP_putI rfl (by assumption) ?_ | refine mP_putL rfl (by assumption) ?_) | (first | ((show mP _ _ _ _ (Value.int _ :: Value.int _ :: _) _ _); first | refine mP_cmpT rfl (by ((apply tXT); (repeat' (first | with_reducible apply tt_rem | with_reducible apply tt_div | with_reducible apply tt_and1 | with_reducible apply tt_add | with_reducible apply tt_sub | with_reducible apply tt_mul | with_reducible apply tt_neg | with_reducible refine nI_toInt ?_ | with_reducible refine iI_toInt ?_ ?_ | with_reducible exact tz0 | with_reducible assumption | omega | exact decide_eq_true rfl | ((simp only [tC, decide_eq_true_eq, decide_eq_false_iff_not]); omega))); (fail_if_success (focus skip)))) ?_ | refine mP_cmpF rfl (by ((apply tXT); (repeat' (first | with_reducible apply tt_rem | with_reducible apply tt_div | with_reducible apply tt_and1 | with_reducible apply tt_add | with_reducible apply tt_sub | with_reducible apply tt_mul | with_reducible apply tt_neg | with_reducible refine nI_toInt ?_ | with_reducible refine iI_toInt ?_ ?_ | with_reducible exact tz0 | with_reducible assumption | omega | exact decide_eq_true rfl | ((simp only [tC, decide_eq_true_eq, decide_eq_false_iff_not]); omega))); (fail_if_success (focus skip)))) ?_) | ((show mP _ _ _ _ (Value.int _ :: _) _ _); first | refine mP_ifT rfl (by ((apply tXT); (repeat' (first | with_reducible apply tt_rem | with_reducible apply tt_div | with_reducible apply tt_and1 | with_reducible apply tt_add | with_reducible apply tt_sub | with_reducible apply tt_mul | with_reducible apply tt_neg | with_reducible refine nI_toInt ?_ | with_reducible refine iI_toInt ?_ ?_ | with_reducible exact tz0 | with_reducible assumption | omega | exact decide_eq_true rfl | ((simp only [tC, decide_eq_true_eq, decide_eq_false_iff_not]); omega))); (fail_if_success (focus skip)))) ?_ | refine mP_ifF rfl (by ((apply tXT); (repeat' (first | with_reducible apply tt_rem | with_reducible apply tt_div | with_reducible apply tt_and1 | with_reducible apply tt_add | with_reducible apply tt_sub | with_reducible apply tt_mul | with_reducible apply tt_neg | with_reducible refine nI_toInt ?_ | with_reducible refine iI_toInt ?_ ?_ | with_reducible exact tz0 | with_reducible assumption | omega | exact decide_eq_true rfl | ((simp only [tC, decide_eq_true_eq, decide_eq_false_iff_not]); omega))); (fail_if_success (focus skip)))) ?_))); (try dsimp only))
        rw [nI_inc]
        refine ih2 M' e _ (by omega) hf h4 h21 ⟨fun i hi => by have := e2 i hi; omega, e3, fun b => ?_⟩
        show (∃ i, i < cnB (inB p g) k ∧ e i = b) ↔ _
        rw [e4 b]
        constructor
        · rintro ⟨q1, q2⟩; exact ⟨by omega, q2⟩
        · rintro ⟨q1, q2⟩
          refine ⟨?_, q2⟩
          by_cases q : b = k
          · subst q; rw [hb] at q2; cases q2
          · omega
      | false =>
        have hb : inB p g k = true := by unfold inB; rw [cg, decide_eq_true (by omega)]; rfl
        rw [hb, if_pos rfl] at ih2
        obtain ⟨M2, hen, f2, h42, h212⟩ := sp_enter (d := d + 21) (b := k) hO' h4 (by omega)
        have hf2 : Fr [20, 21, 23] [] M M2 := (hf.trans f2).weaken (by decide) (by decide)
        generalize cnB (inB p g) k = c at *
        (repeat (first | refine mP_go rfl rfl ?_ | ((show mP _ _ _ _ (Value.ref _ :: _) _ _); first | refine mP_getIv rfl (by assumption) (by assumption) ?_ | refine mP_getI rfl (by assumption) ?_ | refine mP_getR rfl (by assumption) (by assumption) ?_ | refine mP_getLv rfl (by assumption) (by assumption) ?_ | refine mP_getL rfl (by assumption) ?_) | ((show mP _ _ _ _ (_ :: Value.ref _ :: _) _ _); first | refine mP_putI rfl (by assumption) ?_ | refine mP_putL rfl (by assumption) ?_) | (first | ((show mP _ _ _ _ (Value.int _ :: Value.int _ :: _) _ _); first | refine mP_cmpT rfl (by ((apply tXT); (repeat' (first | with_reducible apply tt_rem | with_reducible apply tt_div | with_reducible apply tt_and1 | with_reducible apply tt_add | with_reducible apply tt_sub | with_reducible apply tt_mul | with_reducible apply tt_neg | with_reducible refine nI_toInt ?_ | with_reducible refine iI_toInt ?_ ?_ | with_reducible exact tz0 | with_reducible assumption | omega | exact decide_eq_true rfl | ((simp only [tC, decide_eq_true_eq, decide_eq_false_iff_not]); omega))); (fail_if_success (focus skip)))) ?_ | refine mP_cmpF rfl (by ((apply tXT); (repeat' (first | with_reducible apply tt_rem | with_reducible apply tt_div | with_reducible apply tt_and1 | with_reducible apply tt_add | with_reducible apply tt_sub | with_reducible apply tt_mul | with_reducible apply tt_neg | with_reducible refine nI_toInt ?_ | with_reducible refine iI_toInt ?_ ?_ | with_reducible exact tz0 | with_reducible assumption | omega | exact decide_eq_true rfl | ((simp only [tC, decide_eq_true_eq, decide_eq_false_iff_not]); omega))); (fail_if_success (focus skip)))) ?_) | ((show mP _ _ _ _ (Value.int _ :: _) _ _); first | refine mP_ifT rfl (by ((apply tXT); (repeat' (first | with_reducible apply tt_rem | with_reducible apply tt_div | with_reducible apply tt_and1 | with_reducible apply tt_add | with_reducible apply tt_sub | with_reducible apply tt_mul | with_reducible apply tt_neg | with_reducible refine nI_toInt ?_ | with_reducible refine iI_toInt ?_ ?_ | with_reducible exact tz0 | with_reducible assumption | omega | exact decide_eq_true rfl | ((simp only [tC, decide_eq_true_eq, decide_eq_false_iff_not]); omega))); (fail_if_success (focus skip)))) ?_ | refine mP_ifF rfl (by ((apply tXT); (repeat' (first | with_reducible apply tt_rem | with_reducible apply tt_div | with_reducible apply tt_and1 | with_reducible apply tt_add | with_reducible apply tt_sub | with_reducible apply tt_mul | with_reducible apply tt_neg | with_reducible refine nI_toInt ?_ | with_reducible refine iI_toInt ?_ ?_ | with_reducible exact tz0 | with_reducible assumption | omega | exact decide_eq_true rfl | ((simp only [tC, decide_eq_true_eq, decide_eq_false_iff_not]); omega))); (fail_if_success (focus skip)))) ?_))); (try dsimp only))
        refine mP_V rfl rfl (by assumption) rfl hen ?_
        (repeat (fail_if_success (show mP _ _ 20 _ _ _ _)); (first | refine mP_go rfl rfl ?_ | ((show mP _ _ _ _ (Value.ref _ :: _) _ _); first | refine mP_getIv rfl (by assumption) (by assumption) ?_ | refine mP_getI rfl (by assumption) ?_ | refine mP_getR rfl (by assumption) (by assumption) ?_ | refine mP_getLv rfl (by assumption) (by assumption) ?_ | refine mP_getL rfl (by assumption) ?_) | ((show mP _ _ _ _ (_ :: Value.ref _ :: _) _ _); first | refine mP_putI rfl (by assumption) ?_ | refine mP_putL rfl (by assumption) ?_) | (first | ((show mP _ _ _ _ (Value.int _ :: Value.int _ :: _) _ _); first | refine mP_cmpT rfl (by ((apply tXT); (repeat' (first | with_reducible apply tt_rem | with_reducible apply tt_div | with_reducible apply tt_and1 | with_reducible apply tt_add | with_reducible apply tt_sub | with_reducible apply tt_mul | with_reducible apply tt_neg | with_reducible refine nI_toInt ?_ | with_reducible refine iI_toInt ?_ ?_ | with_reducible exact tz0 | with_reducible assumption | omega | exact decide_eq_true rfl | ((simp only [tC, decide_eq_true_eq, decide_eq_false_iff_not]); omega))); (fail_if_success (focus skip)))) ?_ | refine mP_cmpF rfl (by ((apply tXT); (repeat' (first | with_reducible apply tt_rem | with_reducible apply tt_div | with_reducible apply tt_and1 | with_reducible apply tt_add | with_reducible apply tt_sub | with_reducible apply tt_mul | with_reducible apply tt_neg | with_reducible refine nI_toInt ?_ | with_reducible refine iI_toInt ?_ ?_ | with_reducible exact tz0 | with_reducible assumption | omega | exact decide_eq_true rfl | ((simp only [tC, decide_eq_true_eq, decide_eq_false_iff_not]); omega))); (fail_if_success (focus skip)))) ?_) | ((show mP _ _ _ _ (Value.int _ :: _) _ _); first | refine mP_ifT rfl (by ((apply tXT); (repeat' (first | with_reducible apply tt_rem | with_reducible apply tt_div | with_reducible apply tt_and1 | with_reducible apply tt_add | with_reducible apply tt_sub | with_reducible apply tt_mul | with_reducible apply tt_neg | with_reducible refine nI_toInt ?_ | with_reducible refine iI_toInt ?_ ?_ | with_reducible exact tz0 | with_reducible assumption | omega | exact decide_eq_true rfl | ((simp only [tC, decide_eq_true_eq, decide_eq_false_iff_not]); omega))); (fail_if_success (focus skip)))) ?_ | refine mP_ifF rfl (by ((apply tXT); (repeat' (first | with_reducible apply tt_rem | with_reducible apply tt_div | with_reducible apply tt_and1 | with_reducible apply tt_add | with_reducible apply tt_sub | with_reducible apply tt_mul | with_reducible apply tt_neg | with_reducible refine nI_toInt ?_ | with_reducible refine iI_toInt ?_ ?_ | with_reducible exact tz0 | with_reducible assumption | omega | exact decide_eq_true rfl | ((simp only [tC, decide_eq_true_eq, decide_eq_false_iff_not]); omega))); (fail_if_success (focus skip)))) ?_))); (try dsimp only))
        rw [nI_inc]
        refine ih2 M2 (va_up e c k) _ (by omega) hf2 h42 (fun i hi => ?_) ⟨fun i hi => ?_, fun i j hij hj => ?_, fun b => ?_⟩
        · rw [h212]
          by_cases q : i = c
          · subst q; rw [mU_eq, mU_eq]
          · rw [mU_ne q, mU_ne q]; exact h21 i (by omega)
        · by_cases q : i = c
          · subst q; rw [mU_eq]; omega
          · rw [mU_ne q]; have := e2 i (by omega); omega
        · rw [mU_ne (show i ≠ c by omega)]
          have hi2 := e2 i (by omega)
          by_cases q : j = c
          · subst q; rw [mU_eq]; omega
          · rw [mU_ne q]; exact e3 i j hij (by omega)
        · constructor
          · rintro ⟨i, i1, i2⟩
            by_cases q : i = c
            · subst q; rw [mU_eq] at i2; subst i2; exact ⟨by omega, hb⟩
            · rw [mU_ne q] at i2
              have := (e4 b).mp ⟨i, by omega, i2⟩
              exact ⟨by omega, this.2⟩
          · rintro ⟨q1, q2⟩
            by_cases q : b = k
            · subst q; exact ⟨c, by omega, mU_eq⟩
            · obtain ⟨i, i1, i2⟩ := (e4 b).mpr ⟨by omega, q2⟩
              exact ⟨i, by omega, by rw [mU_ne (by omega)]; exact i2⟩
  obtain ⟨h8, h9, h10, -⟩ := id hC
  have k12 : mKd M 12 = (4, 12) := hO.k 12
  have k20 : mKd M 20 = (3, 6) := hO.k 20
  have r20 : mr M 12 7 = some 20 := hO.r 12 7 20
  have hcl0 : mR (d + 21) mMatch_clear [.ref 20] M none (wI M 20 (va_up (mi M 20) 4 (iI 0))) := by
    show mP (d + 21) mMatch_clear 0 [.ref 20] [] M _
    (repeat (first | refine mP_go rfl rfl ?_ | ((show mP _ _ _ _ (Value.ref _ :: _) _ _); first | refine mP_getIv rfl (by assumption) (by assumption) ?_ | refine mP_getI rfl (by assumption) ?_ | refine mP_getR rfl (by assumption) (by assumption) ?_ | refine mP_getLv rfl (by assumption) (by assumption) ?_ | refine mP_getL rfl (by assumption) ?_) | ((show mP _ _ _ _ (_ :: Value.ref _ :: _) _ _); first | refine mP_putI rfl (by assumption) ?_ | refine mP_putL rfl (by assumption) ?_)); (try dsimp only))
    exact mP_ret rfl rfl ⟨rfl, rfl⟩
  show mP (d + 22) mPaired_findPairing 0 [.ref 12, .retAddr 0, .retAddr 0] [] M _
  (repeat (first | refine mP_go rfl rfl ?_ | ((show mP _ _ _ _ (Value.ref _ :: _) _ _); first | refine mP_getIv rfl (by assumption) (by assumption) ?_ | refine mP_getI rfl (by assumption) ?_ | refine mP_getR rfl (by assumption) (by assumption) ?_ | refine mP_getLv rfl (by assumption) (by assumption) ?_ | refine mP_getL rfl (by assumption) ?_) | ((show mP _ _ _ _ (_ :: Value.ref _ :: _) _ _); first | refine mP_putI rfl (by assumption) ?_ | refine mP_putL rfl (by assumption) ?_) | (first | ((show mP _ _ _ _ (Value.int _ :: Value.int _ :: _) _ _); first | refine mP_cmpT rfl (by ((apply tXT); (repeat' (first | with_reducible apply tt_rem | with_reducible apply tt_div | with_reducible apply tt_and1 | with_reducible apply tt_add | with_reducible apply tt_sub | with_reducible apply tt_mul | with_reducible apply tt_neg | with_reducible refine nI_toInt ?_ | with_reducible refine iI_toInt ?_ ?_ | with_reducible exact tz0 | with_reducible assumption | omega | exact decide_eq_true rfl | ((simp only [tC, decide_eq_true_eq, decide_eq_false_iff_not]); omega))); (fail_if_success (focus skip)))) ?_ | refine mP_cmpF rfl (by ((apply tXT); (repeat' (first | with_reducible apply tt_rem | with_reducible apply tt_div | with_reducible apply tt_and1 | with_reducible apply tt_add | with_reducible apply tt_sub | with_reducible apply tt_mul | with_reducible apply tt_neg | with_reducible refine nI_toInt ?_ | with_reducible refine iI_toInt ?_ ?_ | with_reducible exact tz0 | with_reducible assumption | omega | exact decide_eq_true rfl | ((simp only [tC, decide_eq_true_eq, decide_eq_false_iff_not]); omega))); (fail_if_success (focus skip)))) ?_) | ((show mP _ _ _ _ (Value.int _ :: _) _ _); first | refine mP_ifT rfl (by ((apply tXT); (repeat' (first | with_reducible apply tt_rem | with_reducible apply tt_div | with_reducible apply tt_and1 | with_reducible apply tt_add | with_reducible apply tt_sub | with_reducible apply tt_mul | with_reducible apply tt_neg | with_reducible refine nI_toInt ?_ | with_reducible refine iI_toInt ?_ ?_ | with_reducible exact tz0 | with_reducible assumption | omega | exact decide_eq_true rfl | ((simp only [tC, decide_eq_true_eq, decide_eq_false_iff_not]); omega))); (fail_if_success (focus skip)))) ?_ | refine mP_ifF rfl (by ((apply tXT); (repeat' (first | with_reducible apply tt_rem | with_reducible apply tt_div | with_reducible apply tt_and1 | with_reducible apply tt_add | with_reducible apply tt_sub | with_reducible apply tt_mul | with_reducible apply tt_neg | with_reducible refine nI_toInt ?_ | with_reducible refine iI_toInt ?_ ?_ | with_reducible exact tz0 | with_reducible assumption | omega | exact decide_eq_true rfl | ((simp only [tC, decide_eq_true_eq, decide_eq_false_iff_not]); omega))); (fail_if_success (focus skip)))) ?_))); (try dsimp only))
  refine mP_V rfl rfl (by assumption) rfl hcl0 ?_
  (repeat (fail_if_success (show mP _ _ 20 _ _ _ _)); (first | refine mP_go rfl rfl ?_ | ((show mP _ _ _ _ (Value.ref _ :: _) _ _); first | refine mP_getIv rfl (by assumption) (by assumption) ?_ | refine mP_getI rfl (by assumption) ?_ | refine mP_getR rfl (by assumption) (by assumption) ?_ | refine mP_getLv rfl (by assumption) (by assumption) ?_ | refine mP_getL rfl (by assumption) ?_) | ((show mP _ _ _ _ (_ :: Value.ref _ :: _) _ _); first | refine mP_putI rfl (by assumption) ?_ | refine mP_putL rfl (by assumption) ?_) | (first | ((show mP _ _ _ _ (Value.int _ :: Value.int _ :: _) _ _); first | refine mP_cmpT rfl (by ((apply tXT); (repeat' (first | with_reducible apply tt_rem | with_reducible apply tt_div | with_reducible apply tt_and1 | with_reducible apply tt_add | with_reducible apply tt_sub | with_reducible apply tt_mul | with_reducible apply tt_neg | with_reducible refine nI_toInt ?_ | with_reducible refine iI_toInt ?_ ?_ | with_reducible exact tz0 | with_reducible assumption | omega | exact decide_eq_true rfl | ((simp only [tC, decide_eq_true_eq, decide_eq_false_iff_not]); omega))); (fail_if_success (focus skip)))) ?_ | refine mP_cmpF rfl (by ((apply tXT); (repeat' (first | with_reducible apply tt_rem | with_reducible apply tt_div | with_reducible apply tt_and1 | with_reducible apply tt_add | with_reducible apply tt_sub | with_reducible apply tt_mul | with_reducible apply tt_neg | with_reducible refine nI_toInt ?_ | with_reducible refine iI_toInt ?_ ?_ | with_reducible exact tz0 | with_reducible assumption | omega | exact decide_eq_true rfl | ((simp only [tC, decide_eq_true_eq, decide_eq_false_iff_not]); omega))); (fail_if_success (focus skip)))) ?_) | ((show mP _ _ _ _ (Value.int _ :: _) _ _); first | refine mP_ifT rfl (by ((apply tXT); (repeat' (first | with_reducible apply tt_rem | with_reducible apply tt_div | with_reducible apply tt_and1 | with_reducible apply tt_add | with_reducible apply tt_sub | with_reducible apply tt_mul | with_reducible apply tt_neg | with_reducible refine nI_toInt ?_ | with_reducible refine iI_toInt ?_ ?_ | with_reducible exact tz0 | with_reducible assumption | omega | exact decide_eq_true rfl | ((simp only [tC, decide_eq_true_eq, decide_eq_false_iff_not]); omega))); (fail_if_success (focus skip)))) ?_ | refine mP_ifF rfl (by ((apply tXT); (repeat' (first | with_reducible apply tt_rem | with_reducible apply tt_div | with_reducible apply tt_and1 | with_reducible apply tt_add | with_reducible apply tt_sub | with_reducible apply tt_mul | with_reducible apply tt_neg | with_reducible refine nI_toInt ?_ | with_reducible refine iI_toInt ?_ ?_ | with_reducible exact tz0 | with_reducible assumption | omega | exact decide_eq_true rfl | ((simp only [tC, decide_eq_true_eq, decide_eq_false_iff_not]); omega))); (fail_if_success (focus skip)))) ?_))); (try dsimp only))
  exact E p 0 _ (fun _ => 0) _ (by omega) ((Fr.nil M).put _) rfl (fun i hi => by have : cnB (inB p g) 0 = 0 := rfl; omega) ⟨fun i hi => by have : cnB (inB p g) 0 = 0 := rfl; omega, fun i j _ hj => by have : cnB (inB p g) 0 = 0 := rfl; omega, fun b => ⟨fun ⟨i, hi, _⟩ => by have : cnB (inB p g) 0 = 0 := rfl; omega, fun ⟨h, _⟩ => by omega⟩⟩
