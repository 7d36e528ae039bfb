/-! index sets and player sets: pure -/
def pc (S : Nat) : Nat := (List.range 16).countP (fun j => S.testBit j)
theorem pc_add {S S' a : Nat} (ha : a < 16) (h : ∀ j, S.testBit j = (S'.testBit j || decide (j = a))) (h0 : S'.testBit a = false) : pc S = pc S' + 1 := countP_add (p := fun j => S'.testBit j) (q := fun j => S.testBit j) (a := a) h h0 16 ha
theorem pc_0 {S : Nat} (hS : S < 65536) (h : pc S = 0) : S = 0 := by
  apply Nat.eq_of_testBit_eq
  intro j
  rw [Nat.zero_testBit]
  by_cases c : j < 16
  · cases q : S.testBit j with
    | false => rfl
    | true =>
      exfalso
      have : 0 < pc S := List.countP_pos_iff.mpr ⟨j, List.mem_range.mpr c, q⟩
      omega
  · exact Nat.testBit_lt_two_pow (Nat.lt_of_lt_of_le (show S < 2 ^ 16 from hS) (Nat.pow_le_pow_right (by decide) (by omega)))
theorem pc_zero : pc 0 = 0 := by decide
theorem pcB_pc : ∀ k x, pcB k x = (List.range k).countP (fun j => x.testBit j) := by
  intro k
  induction k with
  | zero => intro x; rfl
  | succ k ih =>
    intro x
    rw [pcB, ih, List.range_succ_eq_map, List.countP_cons, List.countP_map]
    have e : ((fun j => x.testBit j) ∘ Nat.succ) = fun j => (x / 2).testBit j := by
      funext j
      show x.testBit (j + 1) = _
      rw [Nat.testBit_succ]
    rw [e, Nat.testBit_zero]
    rcases Nat.mod_two_eq_zero_or_one x with h | h <;> rw [h] <;> simp [Nat.add_comm]
theorem pcB_16 (x : Nat) : pcB 16 x = pc x := pcB_pc 16 x
/-- two bits taken out as the code does it -/
def rmS (S i k : Nat) : Nat := S &&& ((2 ^ i ||| 2 ^ k) ^^^ 4294967295)
theorem rmS_bit {S i k : Nat} (hS : S < 65536) (j : Nat) : (rmS S i k).testBit j = (S.testBit j && decide (j ≠ i) && decide (j ≠ k)) := by
  unfold rmS
  rw [Nat.testBit_and, Nat.testBit_xor, Nat.testBit_or, Nat.testBit_two_pow, Nat.testBit_two_pow, show 4294967295 = 2 ^ 32 - 1 from rfl, Nat.testBit_two_pow_sub_one]
  by_cases c : j < 32
  · rw [decide_eq_true c]
    by_cases c1 : i = j
    · rw [decide_eq_true c1, decide_eq_false (show ¬ j ≠ i from fun q => q c1.symm)]
      simp
    · rw [decide_eq_false c1, decide_eq_true (show j ≠ i from fun q => c1 q.symm)]
      by_cases c2 : k = j
      · rw [decide_eq_true c2, decide_eq_false (show ¬ j ≠ k from fun q => q c2.symm)]
        simp
      · rw [decide_eq_false c2, decide_eq_true (show j ≠ k from fun q => c2 q.symm)]
        simp
  · have : S.testBit j = false := Nat.testBit_lt_two_pow (Nat.lt_of_lt_of_le (show S < 2 ^ 16 from hS) (Nat.pow_le_pow_right (by decide) (by omega)))
    rw [this]
    simp
theorem rmS_lt {S i k : Nat} (hS : S < 65536) : rmS S i k < 65536 := Nat.lt_of_le_of_lt Nat.and_le_left hS
theorem rmS_pc {S i k : Nat} (hS : S < 65536) (hi : i < 16) (hk : k < 16) (hik : i ≠ k) (bi : S.testBit i = true) (bk : S.testBit k = true) : pc S = pc (rmS S i k) + 2 := by
  have hp2 : 2 ^ k < 2 ^ 16 := Nat.pow_lt_pow_right (by decide) hk
  have h1 := pc_add (S := rmS S i k ||| 2 ^ k) (S' := rmS S i k) hk (fun j => by
    rw [Nat.testBit_or, Nat.testBit_two_pow]
    by_cases c : k = j
    · rw [decide_eq_true c, decide_eq_true c.symm]
    · rw [decide_eq_false c, decide_eq_false (fun q => c q.symm)]) (by rw [rmS_bit hS]; simp)
  have h2 := pc_add (S := S) (S' := rmS S i k ||| 2 ^ k) hi (fun j => by
    rw [Nat.testBit_or, Nat.testBit_two_pow, rmS_bit hS]
    by_cases c : j = i
    · subst c; rw [bi]; simp
    · by_cases c2 : j = k
      · subst c2; rw [bk]; simp
      · rw [decide_eq_true c, decide_eq_true c2, decide_eq_false (fun q => c2 q.symm), decide_eq_false c]; simp) (by
    rw [Nat.testBit_or, Nat.testBit_two_pow, rmS_bit hS, decide_eq_false (show ¬ k = i from fun q => hik q.symm)]; simp)
  omega
/-- sets of eights with an even number are told by what lies above the fourth -/
theorem key_uq {S S' : Nat} (h8 : S % 8 = 0) (h8' : S' % 8 = 0) (hk : S / 16 = S' / 16) (he : pc S % 2 = 0) (he' : pc S' % 2 = 0) : S = S' := by
  have hb : ∀ j, j ≠ 3 → S.testBit j = S'.testBit j := by
    intro j hj
    by_cases c : 4 ≤ j
    · have e := congrArg (fun x => Nat.testBit x (j - 4)) hk
      have e1 : ∀ x : Nat, (x / 16).testBit (j - 4) = x.testBit j := by
        intro x
        rw [show (16 : Nat) = 2 ^ 4 from rfl, Nat.testBit_div_two_pow, show j - 4 + 4 = j by omega]
      simp only [e1] at e
      exact e
    · have e1 : ∀ x : Nat, x % 8 = 0 → x.testBit j = false := by
        intro x hx
        have e2 : (x % 2 ^ 3).testBit j = (decide (j < 3) && x.testBit j) := Nat.testBit_mod_two_pow x 3 j
        rw [show x % 2 ^ 3 = 0 from hx, Nat.zero_testBit, decide_eq_true (show j < 3 by omega), Bool.true_and] at e2
        exact e2.symm
      rw [e1 S h8, e1 S' h8']
  have h3 : S.testBit 3 = S'.testBit 3 := by
    cases c : S.testBit 3 with
    | true =>
      cases c' : S'.testBit 3 with
      | true => rfl
      | false =>
        exfalso
        have := pc_add (S := S) (S' := S') (a := 3) (by decide) (fun j => by
          by_cases q : j = 3
          · subst q; rw [c, c']; rfl
          · rw [hb j q, decide_eq_false q, Bool.or_false]) c'
        omega
    | false =>
      cases c' : S'.testBit 3 with
      | false => rfl
      | true =>
        exfalso
        have := pc_add (S := S') (S' := S) (a := 3) (by decide) (fun j => by
          by_cases q : j = 3
          · subst q; rw [c, c']; rfl
          · rw [hb j q, decide_eq_false q, Bool.or_false]) c
        omega
  apply Nat.eq_of_testBit_eq
  intro j
  by_cases q : j = 3
  · subst q; exact h3
  · exact hb j q
/-- m places filled with players in their order -/
def mono (m : Nat) (e : Nat → Nat) : Prop := m ≤ 16 ∧ (∀ i, i < m → e i ≤ 16) ∧ ∀ i j, i < j → j < m → e i < e j
theorem mono.inj {m : Nat} {e : Nat → Nat} (h : mono m e) {i j : Nat} (hi : i < m) (hj : j < m) (he : e i = e j) : i = j := by
  rcases Nat.lt_trichotomy i j with c | c | c
  · have := h.2.2 i j c hj; omega
  · exact c
  · have := h.2.2 j i c hi; omega
theorem mono.lt {m : Nat} {e : Nat → Nat} (h : mono m e) {i j : Nat} (hi : i < m) (hj : j < m) (he : e i < e j) : i < j := by
  rcases Nat.lt_trichotomy i j with c | c | c
  · exact c
  · subst c; omega
  · have := h.2.2 j i c hi; omega
/-- the set of places S and the set of players T -/
def IM (m : Nat) (e : Nat → Nat) (S T : Nat) : Prop := T < 131072 ∧ S < 65536 ∧ (∀ i, S.testBit i = true → i < m) ∧ ∀ b, T.testBit b = true ↔ ∃ i, i < m ∧ e i = b ∧ S.testBit i = true
theorem IM.bit {m : Nat} {e : Nat → Nat} {S T : Nat} (hm : mono m e) (h : IM m e S T) {i : Nat} (hi : i < m) : T.testBit (e i) = S.testBit i := by
  cases c : S.testBit i with
  | true => exact (h.2.2.2 (e i)).mpr ⟨i, hi, rfl, c⟩
  | false =>
    cases q : T.testBit (e i) with
    | false => rfl
    | true =>
      obtain ⟨j, j1, j2, j3⟩ := (h.2.2.2 (e i)).mp q
      rw [hm.inj j1 hi j2, c] at j3
      cases j3
theorem IM.ne {m : Nat} {e : Nat → Nat} {S T : Nat} (h : IM m e S T) (h0 : S ≠ 0) : T ≠ 0 := by
  intro q
  subst q
  obtain ⟨-, k1, k2, -⟩ := ntz_all h.2.1 h0
  have := (h.2.2.2 (e (ntz S))).mpr ⟨ntz S, h.2.2.1 _ k2, rfl, k2⟩
  rw [Nat.zero_testBit] at this
  cases this
theorem IM.zero {m : Nat} {e : Nat → Nat} {T : Nat} (h : IM m e 0 T) : T = 0 := by
  apply Nat.eq_of_testBit_eq
  intro j
  rw [Nat.zero_testBit]
  cases q : T.testBit j with
  | false => rfl
  | true =>
    obtain ⟨i, -, -, i3⟩ := (h.2.2.2 j).mp q
    rw [Nat.zero_testBit] at i3
    cases i3
theorem IM.lw {m : Nat} {e : Nat → Nat} {S T : Nat} (hm : mono m e) (h : IM m e S T) (h0 : S ≠ 0) : lw T = e (ntz S) ∧ ntz S < m ∧ S.testBit (ntz S) = true := by
  obtain ⟨-, k1, k2, k3⟩ := ntz_all h.2.1 h0
  have hn := h.2.2.1 _ k2
  refine ⟨lw_uq h.1 ((h.2.2.2 _).mpr ⟨ntz S, hn, rfl, k2⟩) (fun j hj => ?_), hn, k2⟩
  cases q : T.testBit j with
  | false => rfl
  | true =>
    obtain ⟨i, i1, i2, i3⟩ := (h.2.2.2 j).mp q
    have := hm.lt i1 hn (by omega)
    rw [k3 i this] at i3
    cases i3
theorem IM.tk {m : Nat} {e : Nat → Nat} {S T i k : Nat} (hm : mono m e) (h : IM m e S T) (hi : i < m) (hk : k < m) (hik : i ≠ k) (bi : S.testBit i = true) (bk : S.testBit k = true) : IM m e (rmS S i k) (rm T (e i) (e k)) := by
  have hne : e i ≠ e k := fun q => hik (hm.inj hi hk q)
  obtain ⟨r1, r2⟩ := rm_bit (T := T) (a := e i) (b := e k) (by rw [h.bit hm hi]; exact bi) (by rw [h.bit hm hk]; exact bk) hne
  have hT := h.1
  refine ⟨by omega, rmS_lt h.2.1, fun j hj => ?_, fun b => ?_⟩
  · rw [rmS_bit h.2.1] at hj
    simp only [Bool.and_eq_true] at hj
    exact h.2.2.1 j hj.1.1
  · rw [r2 b]
    simp only [Bool.and_eq_true, decide_eq_true_eq]
    constructor
    · rintro ⟨⟨q1, q2⟩, q3⟩
      obtain ⟨j, j1, j2, j3⟩ := (h.2.2.2 b).mp q1
      refine ⟨j, j1, j2, ?_⟩
      rw [rmS_bit h.2.1, j3, decide_eq_true (show j ≠ i from fun q => q2 (by rw [← j2, q])), decide_eq_true (show j ≠ k from fun q => q3 (by rw [← j2, q]))]
      rfl
    · rintro ⟨j, j1, j2, j3⟩
      rw [rmS_bit h.2.1] at j3
      simp only [Bool.and_eq_true, decide_eq_true_eq] at j3
      refine ⟨⟨(h.2.2.2 b).mpr ⟨j, j1, j2, j3.1.1⟩, fun q => j3.1.2 (hm.inj j1 hi (by omega))⟩, fun q => j3.2 (hm.inj j1 hk (by omega))⟩
/-- the walk over places goes as the walk over players -/
def eX (m : Nat) (e : Nat → Nat) (k : Nat) : Nat := if k < m then e k else 17
theorem PF_first {pr : Nat → Nat → Int} {f : Nat → Int} {m : Nat} {e : Nat → Nat} {S T a : Nat} (hm : mono m e) (h : IM m e S T) (ha : a < m) : PF pr f T (e a) (eX m e (a + 1)) = -1 := by
  have hlt : e a + 1 ≤ eX m e (a + 1) := by
    unfold eX
    split
    · rename_i c; have := hm.2.2 a (a + 1) (by omega) c; omega
    · have := hm.2.1 a ha; omega
  have hs := PF_skip (pr := pr) (f := f) (T := T) (a := e a) (eX m e (a + 1) - (e a + 1)) (e a + 1) (fun b h1 h2 => ?_)
  · rw [show e a + 1 + (eX m e (a + 1) - (e a + 1)) = eX m e (a + 1) by omega] at hs
    rw [hs]
    exact PF_init _ (Nat.le_refl _)
  · cases q : T.testBit b with
    | false => rfl
    | true =>
      obtain ⟨j, j1, j2, j3⟩ := (h.2.2.2 b).mp q
      have hj := hm.lt ha j1 (by omega)
      rcases Nat.eq_or_lt_of_le (show a + 1 ≤ j by omega) with c | c
      · subst c; unfold eX at h2 hlt; rw [if_pos j1] at h2 hlt; omega
      · have h3 := hm.2.2 (a + 1) j c j1
        unfold eX at h2 hlt
        rw [if_pos (by omega)] at h2 hlt
        omega
theorem PF_next {pr : Nat → Nat → Int} {f : Nat → Int} {m : Nat} {e : Nat → Nat} {S T a k : Nat} (hm : mono m e) (h : IM m e S T) (hak : a < k) (hk : k < m) : PF pr f T (e a) (eX m e (k + 1)) = st (PF pr f T (e a) (eX m e k)) (cw pr f T (e a) (e k)) := by
  have hea := hm.2.2 a k hak hk
  have hlt : e k + 1 ≤ eX m e (k + 1) := by
    unfold eX
    split
    · rename_i c; have := hm.2.2 k (k + 1) (by omega) c; omega
    · have := hm.2.1 k hk; omega
  have hs := PF_skip (pr := pr) (f := f) (T := T) (a := e a) (eX m e (k + 1) - (e k + 1)) (e k + 1) (fun b h1 h2 => ?_)
  · rw [show e k + 1 + (eX m e (k + 1) - (e k + 1)) = eX m e (k + 1) by omega] at hs
    rw [hs, PF, if_pos hea]
    unfold eX
    rw [if_pos hk]
  · cases q : T.testBit b with
    | false => rfl
    | true =>
      obtain ⟨j, j1, j2, j3⟩ := (h.2.2.2 b).mp q
      have hj := hm.lt hk j1 (by omega)
      rcases Nat.eq_or_lt_of_le (show k + 1 ≤ j by omega) with c | c
      · subst c; unfold eX at h2 hlt; rw [if_pos j1] at h2 hlt; omega
      · have h3 := hm.2.2 (k + 1) j c j1
        unfold eX at h2 hlt
        rw [if_pos (by omega)] at h2 hlt
        omega
theorem PF_last (pr : Nat → Nat → Int) (f : Nat → Int) (m : Nat) (e : Nat → Nat) (T a : Nat) : PF pr f T a (eX m e m) = PF pr f T a 17 := by
  unfold eX
  rw [if_neg (by omega)]
