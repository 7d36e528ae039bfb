/-! PAIRINGS: pure. Sets are numbers of 17 bits, 16 the free round. -/
def lw (T : Nat) : Nat := ntzF 17 T
theorem sub_bit {T a : Nat} (h : T.testBit a = true) : 2 ^ a ≤ T ∧ ∀ j, (T - 2 ^ a).testBit j = (T.testBit j && decide (j ≠ a)) := by
  have hge := Nat.ge_two_pow_of_testBit h
  refine ⟨hge, fun j => ?_⟩
  have hp : 0 < 2 ^ a := Nat.two_pow_pos a
  have hr : T % 2 ^ a < 2 ^ a := Nat.mod_lt _ hp
  have hq : T / 2 ^ a % 2 = 1 := by
    rw [Nat.testBit_eq_decide_div_mod_eq] at h
    exact of_decide_eq_true h
  have e : T = 2 ^ a * (T / 2 ^ a) + T % 2 ^ a := (Nat.div_add_mod T (2 ^ a)).symm
  generalize T / 2 ^ a = q at hq e
  generalize T % 2 ^ a = r at hr e
  have e2 : T - 2 ^ a = 2 ^ a * (q - 1) + r := by
    obtain ⟨y, rfl⟩ : ∃ y, q = y + 1 := ⟨q - 1, by omega⟩
    rw [e, Nat.add_sub_cancel, Nat.mul_add]
    omega
  rw [e2, e, Nat.testBit_two_pow_mul_add _ hr, Nat.testBit_two_pow_mul_add _ hr]
  by_cases c : j < a
  · rw [if_pos c, if_pos c, decide_eq_true (by omega), Bool.and_true]
  · rw [if_neg c, if_neg c]
    by_cases c2 : j = a
    · subst c2
      rw [Nat.sub_self, Nat.testBit_zero, decide_eq_false (by omega), decide_eq_false (by omega), Bool.and_false]
    · obtain ⟨i, hi⟩ : ∃ i, j - a = i + 1 := ⟨j - a - 1, by omega⟩
      rw [hi, Nat.testBit_succ, Nat.testBit_succ, show (q - 1) / 2 = q / 2 by omega, decide_eq_true c2, Bool.and_true]
theorem lw_ok {T : Nat} (h0 : T ≠ 0) (hT : T < 2 ^ 17) : lw T < 17 ∧ T.testBit (lw T) = true ∧ ∀ j, j < lw T → T.testBit j = false := by
  obtain ⟨h1, y, h2⟩ := ntzF_ok 17 T h0 hT
  have hk : lw T < 17 := h1
  have h2 : T = 2 ^ lw T * (2 * y + 1) := h2
  generalize lw T = k at hk h2 ⊢
  have bx : ∀ j, T.testBit j = (decide (k ≤ j) && (2 * y + 1).testBit (j - k)) := by
    intro j
    rw [h2, Nat.testBit_two_pow_mul]
  refine ⟨hk, ?_, fun j hj => ?_⟩
  · rw [bx k, decide_eq_true (Nat.le_refl k), Nat.sub_self, Nat.testBit_zero]
    simp
  · rw [bx j, decide_eq_false (by omega)]
    rfl
theorem lw_uq {T a : Nat} (hT : T < 2 ^ 17) (h1 : T.testBit a = true) (h2 : ∀ j, j < a → T.testBit j = false) : lw T = a := by
  have h0 : T ≠ 0 := by
    intro q
    subst q
    rw [Nat.zero_testBit] at h1
    cases h1
  obtain ⟨-, k1, k2⟩ := lw_ok h0 hT
  rcases Nat.lt_trichotomy (lw T) a with c | c | c
  · rw [h2 _ c] at k1; cases k1
  · exact c
  · rw [k2 _ c] at h1; cases h1
/-- two taken out -/
def rm (T a b : Nat) : Nat := T - 2 ^ a - 2 ^ b
theorem rm_bit {T a b : Nat} (ha : T.testBit a = true) (hb : T.testBit b = true) (hab : a ≠ b) : rm T a b < T ∧ ∀ j, (rm T a b).testBit j = (T.testBit j && decide (j ≠ a) && decide (j ≠ b)) := by
  obtain ⟨h1, h2⟩ := sub_bit ha
  have hb2 : (T - 2 ^ a).testBit b = true := by rw [h2 b, hb, decide_eq_true (Ne.symm hab)]; rfl
  obtain ⟨h3, h4⟩ := sub_bit hb2
  have hp : 0 < 2 ^ a := Nat.two_pow_pos a
  refine ⟨Nat.lt_of_le_of_lt (Nat.sub_le _ _) (Nat.sub_lt (Nat.lt_of_lt_of_le hp h1) hp), fun j => ?_⟩
  show (T - 2 ^ a - 2 ^ b).testBit j = _
  rw [h4 j, h2 j]
section Lc
variable (pr : Nat → Nat → Int)
/-- the cost when a and b are a pair, f that of the rest -/
def cw (f : Nat → Int) (T a b : Nat) : Int := if T.testBit b = true ∧ 0 ≤ pr a b ∧ 0 ≤ f (rm T a b) then pr a b + f (rm T a b) else -1
def st (l c : Int) : Int := if 0 ≤ c ∧ (l < 0 ∨ c < l) then c else l
def PF (f : Nat → Int) (T a : Nat) : Nat → Int
  | 0 => -1
  | h + 1 => if a < h then st (PF f T a h) (cw pr f T a h) else PF f T a h
def LCf : Nat → Nat → Int
  | 0, _ => 0
  | n + 1, T => if T = 0 then 0 else PF pr (LCf n) T (lw T) 17
def LC (T : Nat) : Int := LCf pr (T + 1) T
end Lc
theorem cw_congr {pr : Nat → Nat → Int} {f g : Nat → Int} {T a b : Nat} (ha : T.testBit a = true) (hab : a ≠ b) (h : ∀ x, x < T → f x = g x) : cw pr f T a b = cw pr g T a b := by
  unfold cw
  by_cases c : T.testBit b = true
  · rw [h _ (rm_bit ha c hab).1]
  · rw [if_neg (fun q => c q.1), if_neg (fun q => c q.1)]
theorem PF_congr {pr : Nat → Nat → Int} {f g : Nat → Int} {T a : Nat} (ha : T.testBit a = true) (h : ∀ x, x < T → f x = g x) : ∀ k, PF pr f T a k = PF pr g T a k := by
  intro k
  induction k with
  | zero => rfl
  | succ k ih =>
    rw [PF, PF, ih]
    by_cases c : a < k
    · rw [if_pos c, if_pos c, cw_congr ha (by omega) h]
    · rw [if_neg c, if_neg c]
theorem LCf_eq {pr : Nat → Nat → Int} : ∀ n T, T < 2 ^ 17 → T < n → LCf pr n T = LC pr T := by
  intro n
  induction n with
  | zero => intro T _ h; omega
  | succ n ih =>
    intro T hT hn
    by_cases c : T = 0
    · subst c; unfold LC; rw [LCf, LCf, if_pos rfl, if_pos rfl]
    · unfold LC
      rw [LCf, LCf, if_neg c, if_neg c]
      obtain ⟨-, l2, -⟩ := lw_ok c hT
      refine PF_congr l2 (fun x hx => ?_) 17
      rw [ih x (by omega) (by omega)]
      -- the other side by strong induction
      have key : ∀ k x, x < k → x < 2 ^ 17 → LCf pr k x = LC pr x := by
        intro k
        induction k with
        | zero => intro x h; omega
        | succ k ihk =>
          intro x hx hx17
          by_cases c : x = 0
          · subst c; unfold LC; rw [LCf, LCf, if_pos rfl, if_pos rfl]
          · rcases Nat.eq_or_lt_of_le (show x ≤ k by omega) with q | q
            · subst q; rfl
            · have hu : LC pr x = LCf pr k x := (ihk x q hx17).symm
              rw [hu]
              obtain ⟨n', rfl⟩ : ∃ n', k = n' + 1 := ⟨k - 1, by omega⟩
              rw [LCf, LCf, if_neg c, if_neg c]
              obtain ⟨-, l2, -⟩ := lw_ok c hx17
              refine PF_congr l2 (fun y hy => ?_) 17
              rw [ihk y (by omega) (by omega)]
              by_cases cy : y < n'
              · -- one less still suffices
                have : ∀ k y, y < k → y < 2 ^ 17 → LCf pr k y = LCf pr (k + 1) y := by
                  intro k
                  induction k with
                  | zero => intro y h; omega
                  | succ k ih2 =>
                    intro y hy hy17
                    rw [LCf, LCf]
                    by_cases c : y = 0
                    · rw [if_pos c, if_pos c]
                    · rw [if_neg c, if_neg c]
                      obtain ⟨-, l2, -⟩ := lw_ok c hy17
                      exact PF_congr l2 (fun z hz => ih2 z (by omega) (by omega)) 17
                rw [this n' y cy (by omega), ihk y (by omega) (by omega)]
              · omega
      exact (key T x hx (by omega)).symm
theorem LC_0 (pr : Nat → Nat → Int) : LC pr 0 = 0 := by unfold LC; rw [LCf, if_pos rfl]
theorem LC_s (pr : Nat → Nat → Int) {T : Nat} (h0 : T ≠ 0) (hT : T < 2 ^ 17) : LC pr T = PF pr (LC pr) T (lw T) 17 := by
  show LCf pr (T + 1) T = _
  rw [LCf, if_neg h0]
  obtain ⟨-, l2, -⟩ := lw_ok h0 hT
  exact PF_congr l2 (fun x hx => LCf_eq T x (by omega) hx) 17
theorem PF_skip {pr : Nat → Nat → Int} {f : Nat → Int} {T a : Nat} : ∀ d lo, (∀ b, lo ≤ b → b < lo + d → T.testBit b = false) → PF pr f T a (lo + d) = PF pr f T a lo := by
  intro d
  induction d with
  | zero => intro lo _; rfl
  | succ d ih =>
    intro lo h
    show PF pr f T a (lo + d + 1) = _
    rw [PF, ih lo (fun b h1 h2 => h b h1 (by omega))]
    by_cases c : a < lo + d
    · rw [if_pos c]
      have : cw pr f T a (lo + d) = -1 := by
        unfold cw
        rw [if_neg (fun q => by rw [h (lo + d) (by omega) (by omega)] at q; cases q.1)]
      rw [this, st, if_neg (by omega)]
    · rw [if_neg c]
theorem PF_init {pr : Nat → Nat → Int} {f : Nat → Int} {T a : Nat} : ∀ k, k ≤ a + 1 → PF pr f T a k = -1 := by
  intro k
  induction k with
  | zero => intro _; rfl
  | succ k ih =>
    intro hk
    rw [PF, if_neg (by omega), ih (by omega)]
/-- what the walk over partners knows: it is -1, or one of the costs, and none is less -/
theorem PF_min {pr : Nat → Nat → Int} {f : Nat → Int} {T a : Nat} : ∀ k, (PF pr f T a k = -1 ∧ ∀ b, a < b → b < k → cw pr f T a b < 0) ∨ (0 ≤ PF pr f T a k ∧ (∃ b, a < b ∧ b < k ∧ cw pr f T a b = PF pr f T a k)) := by
  intro k
  induction k with
  | zero => exact Or.inl ⟨rfl, fun b _ h => by omega⟩
  | succ k ih =>
    rw [PF]
    by_cases c : a < k
    · rw [if_pos c]
      unfold st
      by_cases c2 : 0 ≤ cw pr f T a k ∧ (PF pr f T a k < 0 ∨ cw pr f T a k < PF pr f T a k)
      · rw [if_pos c2]
        exact Or.inr ⟨c2.1, k, c, by omega, rfl⟩
      · rw [if_neg c2]
        rcases ih with ⟨h1, h2⟩ | ⟨h1, b, h2, h3, h4⟩
        · refine Or.inl ⟨h1, fun b hb1 hb2 => ?_⟩
          by_cases q : b = k
          · subst q; omega
          · exact h2 b hb1 (by omega)
        · exact Or.inr ⟨h1, b, h2, by omega, h4⟩
    · rw [if_neg c]
      rcases ih with ⟨h1, h2⟩ | ⟨h1, b, h2, h3, h4⟩
      · exact Or.inl ⟨h1, fun b hb1 hb2 => h2 b hb1 (by omega)⟩
      · exact Or.inr ⟨h1, b, h2, by omega, h4⟩
theorem LC_ge (pr : Nat → Nat → Int) {T : Nat} (hT : T < 2 ^ 17) : -1 ≤ LC pr T := by
  by_cases c : T = 0
  · subst c; rw [LC_0]; omega
  · rw [LC_s pr c hT]
    rcases PF_min (pr := pr) (f := LC pr) (T := T) (a := lw T) 17 with ⟨h, -⟩ | ⟨h, -⟩ <;> omega
theorem LC_le {pr : Nat → Nat → Int} {B : Int} (hB : 0 ≤ B) (hp : ∀ a b, pr a b ≤ B) : ∀ T : Nat, T < 2 ^ 17 → LC pr T ≤ B * T := by
  intro T
  induction T using Nat.strongRecOn with
  | ind T ih =>
    intro hT
    by_cases c : T = 0
    · subst c; rw [LC_0]; simp
    · rw [LC_s pr c hT]
      obtain ⟨-, l2, -⟩ := lw_ok c hT
      rcases PF_min (pr := pr) (f := LC pr) (T := T) (a := lw T) 17 with ⟨h, -⟩ | ⟨h, b, h1, h2, h3⟩
      · rw [h]
        have : 0 ≤ B * T := Int.mul_nonneg hB (by omega)
        omega
      · rw [← h3]
        rw [← h3] at h
        unfold cw at h ⊢
        by_cases q : T.testBit b = true ∧ 0 ≤ pr (lw T) b ∧ 0 ≤ LC pr (rm T (lw T) b)
        · rw [if_pos q]
          have r1 := (rm_bit l2 q.1 (by omega)).1
          have r2 := ih _ r1 (by omega)
          have r3 := hp (lw T) b
          have r4 : B * (((rm T (lw T) b : Nat) : Int) + 1) ≤ B * T := Int.mul_le_mul_of_nonneg_left (by omega) hB
          rw [Int.mul_add, Int.mul_one] at r4
          omega
        · rw [if_neg q]
          have : 0 ≤ B * T := Int.mul_nonneg hB (by omega)
          omega
/-- the first place from b on where q holds -/
def fs (q : Nat → Bool) : Nat → Nat → Nat
  | 0, b => b
  | f + 1, b => if q b then b else fs q f (b + 1)
theorem fs_ok {q : Nat → Bool} {hi : Nat} : ∀ f b, b + f = hi → (∃ j, b ≤ j ∧ j < hi ∧ q j = true) → b ≤ fs q f b ∧ fs q f b < hi ∧ q (fs q f b) = true ∧ ∀ j, b ≤ j → j < fs q f b → q j = false := by
  intro f
  induction f with
  | zero => intro b hb ⟨j, h1, h2, _⟩; omega
  | succ f ih =>
    intro b hb hx
    rw [fs]
    cases c : q b with
    | true =>
      rw [if_pos rfl]
      exact ⟨Nat.le_refl _, by omega, c, fun j h1 h2 => by omega⟩
    | false =>
      rw [if_neg (by decide)]
      obtain ⟨q1, q2, q3, q4⟩ := ih (b + 1) (by omega) (by
        obtain ⟨j, h1, h2, h3⟩ := hx
        refine ⟨j, ?_, h2, h3⟩
        rcases Nat.eq_or_lt_of_le h1 with e | e
        · subst e; rw [c] at h3; cases h3
        · omega)
      refine ⟨by omega, q2, q3, fun j h1 h2 => ?_⟩
      rcases Nat.eq_or_lt_of_le h1 with e | e
      · subst e; exact c
      · exact q4 j (by omega) h2
/-- the partner of the lowest -/
def fm (pr : Nat → Nat → Int) (T : Nat) : Nat := fs (fun b => decide (cw pr (LC pr) T (lw T) b = LC pr T)) (16 - lw T) (lw T + 1)
theorem fm_ok {pr : Nat → Nat → Int} {T : Nat} (h0 : T ≠ 0) (hT : T < 2 ^ 17) (hL : 0 ≤ LC pr T) : lw T < fm pr T ∧ fm pr T < 17 ∧ T.testBit (fm pr T) = true ∧ 0 ≤ pr (lw T) (fm pr T) ∧ 0 ≤ LC pr (rm T (lw T) (fm pr T)) ∧ LC pr T = pr (lw T) (fm pr T) + LC pr (rm T (lw T) (fm pr T)) ∧ ∀ j, lw T < j → j < fm pr T → cw pr (LC pr) T (lw T) j ≠ LC pr T := by
  obtain ⟨l1, l2, l3⟩ := lw_ok h0 hT
  have hs := LC_s pr h0 hT
  have hx : ∃ j, lw T + 1 ≤ j ∧ j < 17 ∧ decide (cw pr (LC pr) T (lw T) j = LC pr T) = true := by
    rcases PF_min (pr := pr) (f := LC pr) (T := T) (a := lw T) 17 with ⟨h, -⟩ | ⟨h, b, h1, h2, h3⟩
    · omega
    · exact ⟨b, h1, h2, decide_eq_true (by rw [h3, hs])⟩
  obtain ⟨q1, q2, q3, q4⟩ := fs_ok (q := fun b => decide (cw pr (LC pr) T (lw T) b = LC pr T)) (16 - lw T) (lw T + 1) (by omega) hx
  have q3 := of_decide_eq_true q3
  have e : fm pr T = fs (fun b => decide (cw pr (LC pr) T (lw T) b = LC pr T)) (16 - lw T) (lw T + 1) := rfl
  rw [← e] at q1 q2 q3 q4
  unfold cw at q3
  by_cases c : T.testBit (fm pr T) = true ∧ 0 ≤ pr (lw T) (fm pr T) ∧ 0 ≤ LC pr (rm T (lw T) (fm pr T))
  · rw [if_pos c] at q3
    exact ⟨by omega, q2, c.1, c.2.1, c.2.2, q3.symm, fun j h1 h2 => of_decide_eq_false (q4 j (by omega) h2)⟩
  · rw [if_neg c] at q3
    omega
/-- the pairing itself: the partner of each -/
def MTf (pr : Nat → Nat → Int) : Nat → Nat → Nat → Nat
  | 0, _ => fun _ => 0
  | n + 1, T => if T = 0 then fun _ => 0 else fun x => if x = lw T then fm pr T else if x = fm pr T then lw T else MTf pr n (rm T (lw T) (fm pr T)) x
def MT (pr : Nat → Nat → Int) (T : Nat) : Nat → Nat := MTf pr (T + 1) T
theorem MTf_eq {pr : Nat → Nat → Int} : ∀ n m T, T < 2 ^ 17 → 0 ≤ LC pr T → T < n → T < m → MTf pr n T = MTf pr m T := by
  intro n
  induction n with
  | zero => intro m T _ _ h; omega
  | succ n ih =>
    intro m T hT hL hn hm
    obtain ⟨k, rfl⟩ : ∃ k, m = k + 1 := ⟨m - 1, by omega⟩
    rw [MTf, MTf]
    by_cases c : T = 0
    · rw [if_pos c, if_pos c]
    · rw [if_neg c, if_neg c]
      obtain ⟨f1, f2, f3, f4, f5, f6, f7⟩ := fm_ok c hT hL
      obtain ⟨l1, l2, l3⟩ := lw_ok c hT
      have r1 := (rm_bit l2 f3 (by omega)).1
      rw [ih k _ (by omega) f5 (by omega) (by omega)]
theorem MT_s {pr : Nat → Nat → Int} {T : Nat} (h0 : T ≠ 0) (hT : T < 2 ^ 17) (hL : 0 ≤ LC pr T) : MT pr T (lw T) = fm pr T ∧ MT pr T (fm pr T) = lw T ∧ ∀ x, x ≠ lw T → x ≠ fm pr T → MT pr T x = MT pr (rm T (lw T) (fm pr T)) x := by
  obtain ⟨f1, f2, f3, f4, f5, f6, f7⟩ := fm_ok h0 hT hL
  obtain ⟨l1, l2, l3⟩ := lw_ok h0 hT
  have r1 := (rm_bit l2 f3 (by omega)).1
  have e : MT pr T = fun x => if x = lw T then fm pr T else if x = fm pr T then lw T else MTf pr T (rm T (lw T) (fm pr T)) x := by
    show MTf pr (T + 1) T = _
    rw [MTf, if_neg h0]
  rw [e]
  refine ⟨if_pos rfl, ?_, fun x h1 h2 => ?_⟩
  · show (if fm pr T = lw T then _ else _) = _
    rw [if_neg (by omega), if_pos rfl]
  · show (if x = lw T then _ else _) = _
    rw [if_neg h1, if_neg h2]
    exact congrFun (MTf_eq T _ _ (by omega) f5 r1 (Nat.lt_succ_self _)) x
theorem MT_pair {pr : Nat → Nat → Int} : ∀ T, T < 2 ^ 17 → 0 ≤ LC pr T → ∀ x, T.testBit x = true → T.testBit (MT pr T x) = true ∧ MT pr T x ≠ x ∧ MT pr T (MT pr T x) = x ∧ 0 ≤ (if x < MT pr T x then pr x (MT pr T x) else pr (MT pr T x) x) := by
  intro T
  induction T using Nat.strongRecOn with
  | ind T ih =>
    intro hT hL x hx
    have h0 : T ≠ 0 := by intro q; subst q; rw [Nat.zero_testBit] at hx; cases hx
    obtain ⟨f1, f2, f3, f4, f5, f6, f7⟩ := fm_ok h0 hT hL
    obtain ⟨l1, l2, l3⟩ := lw_ok h0 hT
    obtain ⟨r1, r2⟩ := rm_bit l2 f3 (by omega)
    obtain ⟨m1, m2, m3⟩ := MT_s h0 hT hL
    by_cases c1 : x = lw T
    · rw [c1, m1, m2, if_pos f1]
      exact ⟨f3, by omega, rfl, f4⟩
    · by_cases c2 : x = fm pr T
      · rw [c2, m2, m1, if_neg (by omega)]
        exact ⟨l2, by omega, rfl, f4⟩
      · have hx2 : (rm T (lw T) (fm pr T)).testBit x = true := by rw [r2 x, hx, decide_eq_true c1, decide_eq_true c2]; rfl
        obtain ⟨i1, i2, i3, i4⟩ := ih _ r1 (by omega) f5 x hx2
        rw [m3 x c1 c2]
        rw [r2] at i1
        simp only [Bool.and_eq_true, decide_eq_true_eq] at i1
        refine ⟨i1.1.1, i2, ?_, i4⟩
        rw [m3 _ i1.1.2 i1.2]
        exact i3
