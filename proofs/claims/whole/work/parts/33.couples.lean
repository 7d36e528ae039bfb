/-! COUPLES of the class -/
def cpAt (M : mM) (a f g : Nat) : Prop := mKd M a = (0, 4) ∧ mKd M f = (10, 8) ∧ mKd M g = (10, 8) ∧ mr M a 0 = some f ∧ mr M a 1 = some g
/-- all apart -/
def cpD (n : Nat) (F G : Nat → Nat) : Prop := ∀ i j, i < n → j < n → F i ≠ G j ∧ (i ≠ j → F i ≠ F j ∧ G i ≠ G j)
/-- n couples (F i, G i) of numbers below 16, all apart; t: a bit for each -/
def cpA (n t : Nat) (F G : Nat → Nat) : Prop := t < 65536 ∧ (∀ i, i < n → F i < 16 ∧ G i < 16) ∧ (∀ j, j < 16 → (t.testBit j = true ↔ ∃ i, i < n ∧ (F i = j ∨ G i = j))) ∧ (List.range 16).countP (fun j => t.testBit j) = 2 * n ∧ cpD n F G
def cpR (n t : Nat) (F G : Nat → Nat) (row rf rg : Nat → Int32) : Prop := row 2 = nI n ∧ row 3 = nI t ∧ ∀ i, i < n → rf i = nI (F i) ∧ rg i = nI (G i)
theorem cpA.le {n t : Nat} {F G : Nat → Nat} (h : cpA n t F G) : n ≤ 8 := by
  have := List.countP_le_length (p := fun j => t.testBit j) (l := List.range 16)
  rw [h.2.2.2.1, List.length_range] at this
  omega
/-- a number that is free -/
def sgl (t : Nat) (x : Int32) : Bool := (List.range 16).any (fun j => decide (x = nI j) && !t.testBit j)
theorem sgl_iff {t : Nat} {x : Int32} : sgl t x = true ↔ ∃ j, j < 16 ∧ x = nI j ∧ t.testBit j = false := by
  unfold sgl
  rw [List.any_eq_true]
  constructor
  · rintro ⟨j, hj, h⟩
    simp only [Bool.and_eq_true, decide_eq_true_eq, Bool.not_eq_true'] at h
    exact ⟨j, List.mem_range.mp hj, h.1, h.2⟩
  · rintro ⟨j, hj, h1, h2⟩
    exact ⟨j, List.mem_range.mpr hj, by simp [h1, h2]⟩
theorem sgl_of {t j : Nat} (hj : j < 16) : sgl t (nI j) = !t.testBit j := by
  cases h : t.testBit j with
  | true =>
    show sgl t (nI j) = false
    rw [Bool.eq_false_iff]
    intro q
    obtain ⟨i, hi, he, hb⟩ := sgl_iff.mp q
    rw [nI_inj (by omega) (by omega)] at he
    subst he
    rw [h] at hb
    cases hb
  | false => exact sgl_iff.mpr ⟨j, hj, rfl, h⟩
theorem sgl_out {t : Nat} {x : Int32} (h : x < 0 ∨ nI 16 ≤ x) : sgl t x = false := by
  rw [Bool.eq_false_iff]
  intro q
  obtain ⟨j, hj, rfl, -⟩ := sgl_iff.mp q
  rcases h with h | h
  · exact nI_pos (by omega) h
  · rw [nI_leI (by omega) (by omega)] at h
    omega
theorem sp_isSingle {d : Nat} {M : mM} {a f g n t : Nat} {F G : Nat → Nat} (hA : cpAt M a f g) (hC : cpA n t F G) (hR : cpR n t F G (mi M a) (mi M f) (mi M g)) (x : Int32) : mR d mCouples_isSingle [.ref a, .int x] M (some (.int (bI (sgl t x)))) M := by
  obtain ⟨ka, -⟩ := hA
  have ht := hC.1
  show mP d mCouples_isSingle 0 [.ref a, .int x] [] M _
  rcases x_cases x (n := 16) (by decide) with hx | hx | ⟨j, hj, rfl⟩
  · rw [sgl_out (Or.inl hx)]
    (repeat (first | refine mP_go rfl rfl ?_ | ((show mP _ _ _ _ (Value.ref _ :: _) _ _); first | refine mP_getIv rfl (by assumption) (by assumption) ?_ | refine mP_getI rfl (by assumption) ?_ | refine mP_getR rfl (by assumption) (by assumption) ?_ | refine mP_getLv rfl (by assumption) (by assumption) ?_ | refine mP_getL rfl (by assumption) ?_) | ((show mP _ _ _ _ (_ :: Value.ref _ :: _) _ _); first | refine mP_putI rfl (by assumption) ?_ | refine mP_putL rfl (by assumption) ?_)); (try dsimp only))
    refine mP_ifT rfl (decide_eq_true hx) ?_
    (repeat (first | refine mP_go rfl rfl ?_ | ((show mP _ _ _ _ (Value.ref _ :: _) _ _); first | refine mP_getIv rfl (by assumption) (by assumption) ?_ | refine mP_getI rfl (by assumption) ?_ | refine mP_getR rfl (by assumption) (by assumption) ?_ | refine mP_getLv rfl (by assumption) (by assumption) ?_ | refine mP_getL rfl (by assumption) ?_) | ((show mP _ _ _ _ (_ :: Value.ref _ :: _) _ _); first | refine mP_putI rfl (by assumption) ?_ | refine mP_putL rfl (by assumption) ?_)); (try dsimp only))
    exact mP_ret rfl rfl ⟨rfl, rfl⟩
  · rw [sgl_out (Or.inr hx)]
    (repeat (first | refine mP_go rfl rfl ?_ | ((show mP _ _ _ _ (Value.ref _ :: _) _ _); first | refine mP_getIv rfl (by assumption) (by assumption) ?_ | refine mP_getI rfl (by assumption) ?_ | refine mP_getR rfl (by assumption) (by assumption) ?_ | refine mP_getLv rfl (by assumption) (by assumption) ?_ | refine mP_getL rfl (by assumption) ?_) | ((show mP _ _ _ _ (_ :: Value.ref _ :: _) _ _); first | refine mP_putI rfl (by assumption) ?_ | refine mP_putL rfl (by assumption) ?_)); (try dsimp only))
    refine mP_ifF rfl (decide_eq_false (fun q => Int32_not_lt.mpr hx (Int32_lt_trans q (by decide)))) ?_
    (repeat (first | refine mP_go rfl rfl ?_ | ((show mP _ _ _ _ (Value.ref _ :: _) _ _); first | refine mP_getIv rfl (by assumption) (by assumption) ?_ | refine mP_getI rfl (by assumption) ?_ | refine mP_getR rfl (by assumption) (by assumption) ?_ | refine mP_getLv rfl (by assumption) (by assumption) ?_ | refine mP_getL rfl (by assumption) ?_) | ((show mP _ _ _ _ (_ :: Value.ref _ :: _) _ _); first | refine mP_putI rfl (by assumption) ?_ | refine mP_putL rfl (by assumption) ?_)); (try dsimp only))
    refine mP_cmpT rfl (decide_eq_true hx) ?_
    (repeat (first | refine mP_go rfl rfl ?_ | ((show mP _ _ _ _ (Value.ref _ :: _) _ _); first | refine mP_getIv rfl (by assumption) (by assumption) ?_ | refine mP_getI rfl (by assumption) ?_ | refine mP_getR rfl (by assumption) (by assumption) ?_ | refine mP_getLv rfl (by assumption) (by assumption) ?_ | refine mP_getL rfl (by assumption) ?_) | ((show mP _ _ _ _ (_ :: Value.ref _ :: _) _ _); first | refine mP_putI rfl (by assumption) ?_ | refine mP_putL rfl (by assumption) ?_)); (try dsimp only))
    exact mP_ret rfl rfl ⟨rfl, rfl⟩
  · rw [sgl_of hj]
    (repeat (first | refine mP_go rfl rfl ?_ | ((show mP _ _ _ _ (Value.ref _ :: _) _ _); first | refine mP_getIv rfl (by assumption) (by assumption) ?_ | refine mP_getI rfl (by assumption) ?_ | refine mP_getR rfl (by assumption) (by assumption) ?_ | refine mP_getLv rfl (by assumption) (by assumption) ?_ | refine mP_getL rfl (by assumption) ?_) | ((show mP _ _ _ _ (_ :: Value.ref _ :: _) _ _); first | refine mP_putI rfl (by assumption) ?_ | refine mP_putL rfl (by assumption) ?_)); (try dsimp only))
    refine mP_ifF rfl (decide_eq_false (nI_pos (by omega))) ?_
    (repeat (first | refine mP_go rfl rfl ?_ | ((show mP _ _ _ _ (Value.ref _ :: _) _ _); first | refine mP_getIv rfl (by assumption) (by assumption) ?_ | refine mP_getI rfl (by assumption) ?_ | refine mP_getR rfl (by assumption) (by assumption) ?_ | refine mP_getLv rfl (by assumption) (by assumption) ?_ | refine mP_getL rfl (by assumption) ?_) | ((show mP _ _ _ _ (_ :: Value.ref _ :: _) _ _); first | refine mP_putI rfl (by assumption) ?_ | refine mP_putL rfl (by assumption) ?_)); (try dsimp only))
    refine mP_cmpF rfl (decide_eq_false (fun q => by rw [show iI 16 = nI 16 from rfl, nI_leI (by omega) (by omega)] at q; omega)) ?_
    (repeat (first | refine mP_go rfl rfl ?_ | ((show mP _ _ _ _ (Value.ref _ :: _) _ _); first | refine mP_getIv rfl (by assumption) (by assumption) ?_ | refine mP_getI rfl (by assumption) ?_ | refine mP_getR rfl (by assumption) (by assumption) ?_ | refine mP_getLv rfl (by assumption) (by assumption) ?_ | refine mP_getL rfl (by assumption) ?_) | ((show mP _ _ _ _ (_ :: Value.ref _ :: _) _ _); first | refine mP_putI rfl (by assumption) ?_ | refine mP_putL rfl (by assumption) ?_)); (try dsimp only))
    rw [hR.2.1, show iI 1 = nI 1 from rfl, nI_bit (by omega) (by omega)]
    cases hb : t.testBit j with
    | true =>
      refine mP_ifT rfl rfl ?_
      (repeat (first | refine mP_go rfl rfl ?_ | ((show mP _ _ _ _ (Value.ref _ :: _) _ _); first | refine mP_getIv rfl (by assumption) (by assumption) ?_ | refine mP_getI rfl (by assumption) ?_ | refine mP_getR rfl (by assumption) (by assumption) ?_ | refine mP_getLv rfl (by assumption) (by assumption) ?_ | refine mP_getL rfl (by assumption) ?_) | ((show mP _ _ _ _ (_ :: Value.ref _ :: _) _ _); first | refine mP_putI rfl (by assumption) ?_ | refine mP_putL rfl (by assumption) ?_)); (try dsimp only))
      exact mP_ret rfl rfl ⟨rfl, rfl⟩
    | false =>
      refine mP_ifF rfl rfl ?_
      (repeat (first | refine mP_go rfl rfl ?_ | ((show mP _ _ _ _ (Value.ref _ :: _) _ _); first | refine mP_getIv rfl (by assumption) (by assumption) ?_ | refine mP_getI rfl (by assumption) ?_ | refine mP_getR rfl (by assumption) (by assumption) ?_ | refine mP_getLv rfl (by assumption) (by assumption) ?_ | refine mP_getL rfl (by assumption) ?_) | ((show mP _ _ _ _ (_ :: Value.ref _ :: _) _ _); first | refine mP_putI rfl (by assumption) ?_ | refine mP_putL rfl (by assumption) ?_)); (try dsimp only))
      exact mP_ret rfl rfl ⟨rfl, rfl⟩

/-- the couples with one more -/
theorem cpA.add {n t x y : Nat} {F G : Nat → Nat} (h : cpA n t F G) (hx : x < 16) (hy : y < 16) (hxy : x ≠ y) (bx : t.testBit x = false) (by_ : t.testBit y = false) : cpA (n + 1) (t ||| (2 ^ x ||| 2 ^ y)) (va_up F n x) (va_up G n y) ∧ n < 8 := by
  obtain ⟨h1, h2, h3, h4, h5⟩ := h
  have hbit : ∀ j, (t ||| (2 ^ x ||| 2 ^ y)).testBit j = (t.testBit j || (decide (j = x) || decide (j = y))) := by
    intro j
    rw [Nat.testBit_or, Nat.testBit_or, Nat.testBit_two_pow, Nat.testBit_two_pow]
    congr 1
    congr 1 <;> (congr 1; exact propext eq_comm)
  have hc : (List.range 16).countP (fun j => (t ||| (2 ^ x ||| 2 ^ y)).testBit j) = 2 * (n + 1) := by
    have e1 := countP_add (p := fun j => t.testBit j) (q := fun j => t.testBit j || decide (j = x)) (a := x) (fun j => rfl) bx 16 hx
    have e2 := countP_add (p := fun j => t.testBit j || decide (j = x)) (q := fun j => (t ||| (2 ^ x ||| 2 ^ y)).testBit j) (a := y) (fun j => by rw [hbit j, Bool.or_assoc]) (by simp [by_, Ne.symm hxy]) 16 hy
    rw [e2, e1, h4]
    omega
  have hn : n < 8 := by
    have := List.countP_le_length (p := fun j => (t ||| (2 ^ x ||| 2 ^ y)).testBit j) (l := List.range 16)
    rw [hc, List.length_range] at this
    omega
  refine ⟨⟨?_, ?_, ?_, hc, ?_⟩, hn⟩
  · have hp : ∀ k, k < 16 → 2 ^ k < 2 ^ 16 := fun k hk => Nat.pow_lt_pow_right (by decide) hk
    exact Nat.or_lt_two_pow (n := 16) h1 (Nat.or_lt_two_pow (hp x hx) (hp y hy))
  · intro i hi
    by_cases hin : i = n
    · subst hin
      rw [mU_eq, mU_eq]
      exact ⟨hx, hy⟩
    · rw [mU_ne hin, mU_ne hin]
      exact h2 i (by omega)
  · intro j hj
    rw [hbit j]
    simp only [Bool.or_eq_true, decide_eq_true_eq]
    constructor
    · rintro (h | h | h)
      · obtain ⟨i, hi, hf⟩ := (h3 j hj).mp h
        exact ⟨i, by omega, by rw [mU_ne (by omega), mU_ne (by omega)]; exact hf⟩
      · exact ⟨n, by omega, Or.inl (by rw [mU_eq]; exact h.symm)⟩
      · exact ⟨n, by omega, Or.inr (by rw [mU_eq]; exact h.symm)⟩
    · rintro ⟨i, hi, hf⟩
      by_cases hin : i = n
      · subst hin
        rw [mU_eq, mU_eq] at hf
        rcases hf with hf | hf
        · exact Or.inr (Or.inl hf.symm)
        · exact Or.inr (Or.inr hf.symm)
      · rw [mU_ne hin, mU_ne hin] at hf
        exact Or.inl ((h3 j hj).mpr ⟨i, by omega, hf⟩)
  · have ax : ∀ i, i < n → F i ≠ x ∧ F i ≠ y ∧ G i ≠ x ∧ G i ≠ y := by
      intro i hi
      have bF := (h3 (F i) (h2 i hi).1).mpr ⟨i, hi, Or.inl rfl⟩
      have bG := (h3 (G i) (h2 i hi).2).mpr ⟨i, hi, Or.inr rfl⟩
      refine ⟨fun q => ?_, fun q => ?_, fun q => ?_, fun q => ?_⟩
      · rw [q, bx] at bF; cases bF
      · rw [q, by_] at bF; cases bF
      · rw [q, bx] at bG; cases bG
      · rw [q, by_] at bG; cases bG
    intro i j hi hj
    by_cases e1 : i = n
    · by_cases e2 : j = n
      · rw [e1, e2, mU_eq, mU_eq]
        exact ⟨hxy, fun q => absurd rfl q⟩
      · have := ax j (by omega)
        rw [e1, mU_eq, mU_eq, mU_ne e2, mU_ne e2]
        exact ⟨fun q => this.2.2.1 q.symm, fun _ => ⟨fun q => this.1 q.symm, fun q => this.2.2.2 q.symm⟩⟩
    · by_cases e2 : j = n
      · have := ax i (by omega)
        rw [e2, mU_eq, mU_eq, mU_ne e1, mU_ne e1]
        exact ⟨this.2.1, fun _ => ⟨this.1, this.2.2.2⟩⟩
      · rw [mU_ne e1, mU_ne e1, mU_ne e2, mU_ne e2]
        exact h5 i j (by omega) (by omega)
theorem cpA.nil (F G : Nat → Nat) : cpA 0 0 F G := ⟨by decide, fun i h => by omega, fun j _ => by simp, by decide, fun i j h => by omega⟩
/-- join takes two numbers -/
def cpJ (t : Nat) (x y : Int32) : Bool := decide (x ≠ y) && sgl t x && sgl t y
theorem sp_join_no {d : Nat} {M : mM} {a f g n t : Nat} {F G : Nat → Nat} (hA : cpAt M a f g) (hC : cpA n t F G) (hR : cpR n t F G (mi M a) (mi M f) (mi M g)) {x y : Int32} (hj : cpJ t x y = false) : mR (d + 1) mCouples_join [.ref a, .int x, .int y] M (some (.int (bI false))) M := by
  have ka := hA.1
  have hs : ∀ z, mR d mCouples_isSingle [.ref a, .int z] M (some (.int (bI (sgl t z)))) M := sp_isSingle hA hC hR
  show mP (d + 1) mCouples_join 0 [.ref a, .int x, .int y] [] M _
  (repeat (first | refine mP_go rfl rfl ?_ | ((show mP _ _ _ _ (Value.ref _ :: _) _ _); first | refine mP_getIv rfl (by assumption) (by assumption) ?_ | refine mP_getI rfl (by assumption) ?_ | refine mP_getR rfl (by assumption) (by assumption) ?_ | refine mP_getLv rfl (by assumption) (by assumption) ?_ | refine mP_getL rfl (by assumption) ?_) | ((show mP _ _ _ _ (_ :: Value.ref _ :: _) _ _); first | refine mP_putI rfl (by assumption) ?_ | refine mP_putL rfl (by assumption) ?_)); (try dsimp only))
  by_cases hxy : x = y
  · refine mP_cmpT rfl (decide_eq_true hxy) ?_
    (repeat (first | refine mP_go rfl rfl ?_ | ((show mP _ _ _ _ (Value.ref _ :: _) _ _); first | refine mP_getIv rfl (by assumption) (by assumption) ?_ | refine mP_getI rfl (by assumption) ?_ | refine mP_getR rfl (by assumption) (by assumption) ?_ | refine mP_getLv rfl (by assumption) (by assumption) ?_ | refine mP_getL rfl (by assumption) ?_) | ((show mP _ _ _ _ (_ :: Value.ref _ :: _) _ _); first | refine mP_putI rfl (by assumption) ?_ | refine mP_putL rfl (by assumption) ?_)); (try dsimp only))
    exact mP_ret rfl rfl ⟨rfl, rfl⟩
  · refine mP_cmpF rfl (decide_eq_false hxy) ?_
    (repeat (first | refine mP_go rfl rfl ?_ | ((show mP _ _ _ _ (Value.ref _ :: _) _ _); first | refine mP_getIv rfl (by assumption) (by assumption) ?_ | refine mP_getI rfl (by assumption) ?_ | refine mP_getR rfl (by assumption) (by assumption) ?_ | refine mP_getLv rfl (by assumption) (by assumption) ?_ | refine mP_getL rfl (by assumption) ?_) | ((show mP _ _ _ _ (_ :: Value.ref _ :: _) _ _); first | refine mP_putI rfl (by assumption) ?_ | refine mP_putL rfl (by assumption) ?_)); (try dsimp only))
    refine mP_V rfl rfl ka rfl (hs x) ?_
    cases hx : sgl t x with
    | false =>
      refine mP_ifT rfl rfl ?_
      (repeat (first | refine mP_go rfl rfl ?_ | ((show mP _ _ _ _ (Value.ref _ :: _) _ _); first | refine mP_getIv rfl (by assumption) (by assumption) ?_ | refine mP_getI rfl (by assumption) ?_ | refine mP_getR rfl (by assumption) (by assumption) ?_ | refine mP_getLv rfl (by assumption) (by assumption) ?_ | refine mP_getL rfl (by assumption) ?_) | ((show mP _ _ _ _ (_ :: Value.ref _ :: _) _ _); first | refine mP_putI rfl (by assumption) ?_ | refine mP_putL rfl (by assumption) ?_)); (try dsimp only))
      exact mP_ret rfl rfl ⟨rfl, rfl⟩
    | true =>
      refine mP_ifF rfl rfl ?_
      (repeat (first | refine mP_go rfl rfl ?_ | ((show mP _ _ _ _ (Value.ref _ :: _) _ _); first | refine mP_getIv rfl (by assumption) (by assumption) ?_ | refine mP_getI rfl (by assumption) ?_ | refine mP_getR rfl (by assumption) (by assumption) ?_ | refine mP_getLv rfl (by assumption) (by assumption) ?_ | refine mP_getL rfl (by assumption) ?_) | ((show mP _ _ _ _ (_ :: Value.ref _ :: _) _ _); first | refine mP_putI rfl (by assumption) ?_ | refine mP_putL rfl (by assumption) ?_)); (try dsimp only))
      refine mP_V rfl rfl ka rfl (hs y) ?_
      cases hy : sgl t y with
      | false =>
        refine mP_ifT rfl rfl ?_
        (repeat (first | refine mP_go rfl rfl ?_ | ((show mP _ _ _ _ (Value.ref _ :: _) _ _); first | refine mP_getIv rfl (by assumption) (by assumption) ?_ | refine mP_getI rfl (by assumption) ?_ | refine mP_getR rfl (by assumption) (by assumption) ?_ | refine mP_getLv rfl (by assumption) (by assumption) ?_ | refine mP_getL rfl (by assumption) ?_) | ((show mP _ _ _ _ (_ :: Value.ref _ :: _) _ _); first | refine mP_putI rfl (by assumption) ?_ | refine mP_putL rfl (by assumption) ?_)); (try dsimp only))
        exact mP_ret rfl rfl ⟨rfl, rfl⟩
      | true =>
        simp [cpJ, hxy, hx, hy] at hj

/-- the memory behind a join -/
def cpW (M : mM) (a f g n t x y : Nat) : mM := wI (wI (wI M f (va_up (mi M f) n (nI x))) g (va_up (mi M g) n (nI y))) a (va_up (va_up (mi M a) 2 (nI (n + 1))) 3 (nI (t ||| (2 ^ x ||| 2 ^ y))))
theorem sp_join_yes {d : Nat} {M : mM} {a f g n t : Nat} {F G : Nat → Nat} (hA : cpAt M a f g) (hfa : a ≠ f ∧ a ≠ g ∧ f ≠ g) (hC : cpA n t F G) (hR : cpR n t F G (mi M a) (mi M f) (mi M g)) {x y : Nat} (hx : x < 16) (hy : y < 16) (hxy : x ≠ y) (bx : t.testBit x = false) (by_ : t.testBit y = false) : mR (d + 1) mCouples_join [.ref a, .int (nI x), .int (nI y)] M (some (.int (bI true))) (cpW M a f g n t x y) := by
  obtain ⟨ka, kf, kg, rf, rg⟩ := id hA
  obtain ⟨e1, e2, e3⟩ := hfa
  have hs : ∀ z, mR d mCouples_isSingle [.ref a, .int z] M (some (.int (bI (sgl t z)))) M := sp_isSingle hA hC hR
  have hn := (hC.add hx hy hxy bx by_).2
  have ht := hC.1
  show mP (d + 1) mCouples_join 0 [.ref a, .int (nI x), .int (nI y)] [] M _
  (repeat (first | refine mP_go rfl rfl ?_ | ((show mP _ _ _ _ (Value.ref _ :: _) _ _); first | refine mP_getIv rfl (by assumption) (by assumption) ?_ | refine mP_getI rfl (by assumption) ?_ | refine mP_getR rfl (by assumption) (by assumption) ?_ | refine mP_getLv rfl (by assumption) (by assumption) ?_ | refine mP_getL rfl (by assumption) ?_) | ((show mP _ _ _ _ (_ :: Value.ref _ :: _) _ _); first | refine mP_putI rfl (by assumption) ?_ | refine mP_putL rfl (by assumption) ?_)); (try dsimp only))
  refine mP_cmpF rfl (decide_eq_false (fun q => hxy ((nI_inj (by omega) (by omega)).mp q))) ?_
  (repeat (first | refine mP_go rfl rfl ?_ | ((show mP _ _ _ _ (Value.ref _ :: _) _ _); first | refine mP_getIv rfl (by assumption) (by assumption) ?_ | refine mP_getI rfl (by assumption) ?_ | refine mP_getR rfl (by assumption) (by assumption) ?_ | refine mP_getLv rfl (by assumption) (by assumption) ?_ | refine mP_getL rfl (by assumption) ?_) | ((show mP _ _ _ _ (_ :: Value.ref _ :: _) _ _); first | refine mP_putI rfl (by assumption) ?_ | refine mP_putL rfl (by assumption) ?_)); (try dsimp only))
  refine mP_V rfl rfl ka rfl (hs _) ?_
  rw [sgl_of hx, bx]
  refine mP_ifF rfl rfl ?_
  (repeat (first | refine mP_go rfl rfl ?_ | ((show mP _ _ _ _ (Value.ref _ :: _) _ _); first | refine mP_getIv rfl (by assumption) (by assumption) ?_ | refine mP_getI rfl (by assumption) ?_ | refine mP_getR rfl (by assumption) (by assumption) ?_ | refine mP_getLv rfl (by assumption) (by assumption) ?_ | refine mP_getL rfl (by assumption) ?_) | ((show mP _ _ _ _ (_ :: Value.ref _ :: _) _ _); first | refine mP_putI rfl (by assumption) ?_ | refine mP_putL rfl (by assumption) ?_)); (try dsimp only))
  refine mP_V rfl rfl ka rfl (hs _) ?_
  rw [sgl_of hy, by_]
  refine mP_ifF rfl rfl ?_
  (repeat (first | refine mP_go rfl rfl ?_ | ((show mP _ _ _ _ (Value.ref _ :: _) _ _); first | refine mP_getIv rfl (by assumption) (by assumption) ?_ | refine mP_getI rfl (by assumption) ?_ | refine mP_getR rfl (by assumption) (by assumption) ?_ | refine mP_getLv rfl (by assumption) (by assumption) ?_ | refine mP_getL rfl (by assumption) ?_) | ((show mP _ _ _ _ (_ :: Value.ref _ :: _) _ _); first | refine mP_putI rfl (by assumption) ?_ | refine mP_putL rfl (by assumption) ?_)); (try dsimp only))
  refine mP_alen rfl kf ?_
  rw [hR.1]
  refine mP_cmpT rfl (decide_eq_true (nI_lt hn (by decide))) ?_
  (repeat (first | refine mP_go rfl rfl ?_ | ((show mP _ _ _ _ (Value.ref _ :: _) _ _); first | refine mP_getIv rfl (by assumption) (by assumption) ?_ | refine mP_getI rfl (by assumption) ?_ | refine mP_getR rfl (by assumption) (by assumption) ?_ | refine mP_getLv rfl (by assumption) (by assumption) ?_ | refine mP_getL rfl (by assumption) ?_) | ((show mP _ _ _ _ (_ :: Value.ref _ :: _) _ _); first | refine mP_putI rfl (by assumption) ?_ | refine mP_putL rfl (by assumption) ?_)); (try dsimp only))
  rw [hR.1]
  (repeat (first | refine mP_go rfl rfl ?_ | ((show mP _ _ _ _ (Value.ref _ :: _) _ _); first | refine mP_getIv rfl (by assumption) (by assumption) ?_ | refine mP_getI rfl (by assumption) ?_ | refine mP_getR rfl (by assumption) (by assumption) ?_ | refine mP_getLv rfl (by assumption) (by assumption) ?_ | refine mP_getL rfl (by assumption) ?_) | ((show mP _ _ _ _ (_ :: Value.ref _ :: _) _ _); first | refine mP_putI rfl (by assumption) ?_ | refine mP_putL rfl (by assumption) ?_)); (try dsimp only))
  refine mP_iast rfl kf (j := n) hn (by decide) ?_
  (repeat (first | refine mP_go rfl rfl ?_ | ((show mP _ _ _ _ (Value.ref _ :: _) _ _); first | refine mP_getIv rfl (by assumption) (by assumption) ?_ | refine mP_getI rfl (by assumption) ?_ | refine mP_getR rfl (by assumption) (by assumption) ?_ | refine mP_getLv rfl (by assumption) (by assumption) ?_ | refine mP_getL rfl (by assumption) ?_) | ((show mP _ _ _ _ (_ :: Value.ref _ :: _) _ _); first | refine mP_putI rfl (by assumption) ?_ | refine mP_putL rfl (by assumption) ?_)); (try dsimp only))
  simp only [mi_wI, e1, e2, e3, if_false]
  rw [hR.1]
  (repeat (first | refine mP_go rfl rfl ?_ | ((show mP _ _ _ _ (Value.ref _ :: _) _ _); first | refine mP_getIv rfl (by assumption) (by assumption) ?_ | refine mP_getI rfl (by assumption) ?_ | refine mP_getR rfl (by assumption) (by assumption) ?_ | refine mP_getLv rfl (by assumption) (by assumption) ?_ | refine mP_getL rfl (by assumption) ?_) | ((show mP _ _ _ _ (_ :: Value.ref _ :: _) _ _); first | refine mP_putI rfl (by assumption) ?_ | refine mP_putL rfl (by assumption) ?_)); (try dsimp only))
  refine mP_iast rfl kg (j := n) hn (by decide) ?_
  (repeat (first | refine mP_go rfl rfl ?_ | ((show mP _ _ _ _ (Value.ref _ :: _) _ _); first | refine mP_getIv rfl (by assumption) (by assumption) ?_ | refine mP_getI rfl (by assumption) ?_ | refine mP_getR rfl (by assumption) (by assumption) ?_ | refine mP_getLv rfl (by assumption) (by assumption) ?_ | refine mP_getL rfl (by assumption) ?_) | ((show mP _ _ _ _ (_ :: Value.ref _ :: _) _ _); first | refine mP_putI rfl (by assumption) ?_ | refine mP_putL rfl (by assumption) ?_)); (try dsimp only))
  simp only [mi_wI, e1, e2, e3, if_false]
  rw [hR.1]
  (repeat (first | refine mP_go rfl rfl ?_ | ((show mP _ _ _ _ (Value.ref _ :: _) _ _); first | refine mP_getIv rfl (by assumption) (by assumption) ?_ | refine mP_getI rfl (by assumption) ?_ | refine mP_getR rfl (by assumption) (by assumption) ?_ | refine mP_getLv rfl (by assumption) (by assumption) ?_ | refine mP_getL rfl (by assumption) ?_) | ((show mP _ _ _ _ (_ :: Value.ref _ :: _) _ _); first | refine mP_putI rfl (by assumption) ?_ | refine mP_putL rfl (by assumption) ?_)); (try dsimp only))
  refine mP_ret rfl rfl ⟨rfl, ?_⟩
  have e4 : ¬ g = f := fun q => e3 q.symm
  simp only [mi_wI, if_true, wI_wI, e4, if_false]
  unfold cpW
  rw [mU_ne (show (3 : Nat) ≠ 2 by decide), hR.2.1, show iI 1 = nI 1 from rfl, nI_pow (by omega), nI_pow (by omega), nI_or, nI_or, nI_add]
theorem cpW_fr (M : mM) (a f g n t x y b : Nat) (h : b ≠ a ∧ b ≠ f ∧ b ≠ g) : mi (cpW M a f g n t x y) b = mi M b := by
  unfold cpW
  simp only [mi_wI, h.1, h.2.1, h.2.2, if_false]
theorem cpW_R {M : mM} {a f g n t x y : Nat} {F G : Nat → Nat} (hfa : a ≠ f ∧ a ≠ g ∧ f ≠ g) (hR : cpR n t F G (mi M a) (mi M f) (mi M g)) : cpR (n + 1) (t ||| (2 ^ x ||| 2 ^ y)) (va_up F n x) (va_up G n y) (mi (cpW M a f g n t x y) a) (mi (cpW M a f g n t x y) f) (mi (cpW M a f g n t x y) g) := by
  obtain ⟨e1, e2, e3⟩ := hfa
  have e4 : ¬ g = f := fun q => e3 q.symm
  have e5 : ¬ f = a := fun q => e1 q.symm
  have e6 : ¬ g = a := fun q => e2 q.symm
  unfold cpW
  simp only [mi_wI, if_true, e3, e4, e5, e6, if_false]
  refine ⟨by rw [mU_ne (by decide), mU_eq], by rw [mU_eq], fun i hi => ?_⟩
  by_cases hin : i = n
  · subst hin
    simp only [mU_eq, and_self]
  · rw [mU_ne hin, mU_ne hin, mU_ne hin, mU_ne hin]
    exact hR.2.2 i (by omega)
theorem sp_forget {d : Nat} {M : mM} {a f g : Nat} (hA : cpAt M a f g) : mR d mCouples_forget [.ref a] M none (wI M a (va_up (va_up (mi M a) 2 (nI 0)) 3 (nI 0))) := by
  have ka := hA.1
  show mP d mCouples_forget 0 [.ref a] [] M _
  (repeat (first | refine mP_go rfl rfl ?_ | ((show mP _ _ _ _ (Value.ref _ :: _) _ _); first | refine mP_getIv rfl (by assumption) (by assumption) ?_ | refine mP_getI rfl (by assumption) ?_ | refine mP_getR rfl (by assumption) (by assumption) ?_ | refine mP_getLv rfl (by assumption) (by assumption) ?_ | refine mP_getL rfl (by assumption) ?_) | ((show mP _ _ _ _ (_ :: Value.ref _ :: _) _ _); first | refine mP_putI rfl (by assumption) ?_ | refine mP_putL rfl (by assumption) ?_)); (try dsimp only))
  refine mP_ret rfl rfl ⟨rfl, ?_⟩
  simp only [mi_wI, if_true, wI_wI]
  rfl
theorem sp_size {d : Nat} {M : mM} {a f g n t : Nat} {F G : Nat → Nat} (hA : cpAt M a f g) (hR : cpR n t F G (mi M a) (mi M f) (mi M g)) : mR d mCouples_size [.ref a] M (some (.int (nI n))) M := by
  have ka := hA.1
  show mP d mCouples_size 0 [.ref a] [] M _
  (repeat (first | refine mP_go rfl rfl ?_ | ((show mP _ _ _ _ (Value.ref _ :: _) _ _); first | refine mP_getIv rfl (by assumption) (by assumption) ?_ | refine mP_getI rfl (by assumption) ?_ | refine mP_getR rfl (by assumption) (by assumption) ?_ | refine mP_getLv rfl (by assumption) (by assumption) ?_ | refine mP_getL rfl (by assumption) ?_) | ((show mP _ _ _ _ (_ :: Value.ref _ :: _) _ _); first | refine mP_putI rfl (by assumption) ?_ | refine mP_putL rfl (by assumption) ?_)); (try dsimp only))
  rw [hR.1]
  exact mP_ret rfl rfl ⟨rfl, rfl⟩
theorem sp_firstOf {d : Nat} {M : mM} {a f g n t i : Nat} {F G : Nat → Nat} (hA : cpAt M a f g) (hC : cpA n t F G) (hR : cpR n t F G (mi M a) (mi M f) (mi M g)) (hi : i < n) : mR d mCouples_firstOf [.ref a, .int (nI i)] M (some (.int (nI (F i)))) M := by
  obtain ⟨ka, kf, kg, rf, rg⟩ := id hA
  have hn := hC.le
  show mP d mCouples_firstOf 0 [.ref a, .int (nI i)] [] M _
  (repeat (first | refine mP_go rfl rfl ?_ | ((show mP _ _ _ _ (Value.ref _ :: _) _ _); first | refine mP_getIv rfl (by assumption) (by assumption) ?_ | refine mP_getI rfl (by assumption) ?_ | refine mP_getR rfl (by assumption) (by assumption) ?_ | refine mP_getLv rfl (by assumption) (by assumption) ?_ | refine mP_getL rfl (by assumption) ?_) | ((show mP _ _ _ _ (_ :: Value.ref _ :: _) _ _); first | refine mP_putI rfl (by assumption) ?_ | refine mP_putL rfl (by assumption) ?_)); (try dsimp only))
  refine mP_ifF rfl (decide_eq_false (nI_pos (by omega))) ?_
  (repeat (first | refine mP_go rfl rfl ?_ | ((show mP _ _ _ _ (Value.ref _ :: _) _ _); first | refine mP_getIv rfl (by assumption) (by assumption) ?_ | refine mP_getI rfl (by assumption) ?_ | refine mP_getR rfl (by assumption) (by assumption) ?_ | refine mP_getLv rfl (by assumption) (by assumption) ?_ | refine mP_getL rfl (by assumption) ?_) | ((show mP _ _ _ _ (_ :: Value.ref _ :: _) _ _); first | refine mP_putI rfl (by assumption) ?_ | refine mP_putL rfl (by assumption) ?_)); (try dsimp only))
  rw [hR.1]
  refine mP_cmpF rfl (decide_eq_false (nI_ge hi (by omega))) ?_
  (repeat (first | refine mP_go rfl rfl ?_ | ((show mP _ _ _ _ (Value.ref _ :: _) _ _); first | refine mP_getIv rfl (by assumption) (by assumption) ?_ | refine mP_getI rfl (by assumption) ?_ | refine mP_getR rfl (by assumption) (by assumption) ?_ | refine mP_getLv rfl (by assumption) (by assumption) ?_ | refine mP_getL rfl (by assumption) ?_) | ((show mP _ _ _ _ (_ :: Value.ref _ :: _) _ _); first | refine mP_putI rfl (by assumption) ?_ | refine mP_putL rfl (by assumption) ?_)); (try dsimp only))
  refine mP_iald rfl kf (by omega) (by decide) ?_
  rw [(hR.2.2 i hi).1]
  (repeat (first | refine mP_go rfl rfl ?_ | ((show mP _ _ _ _ (Value.ref _ :: _) _ _); first | refine mP_getIv rfl (by assumption) (by assumption) ?_ | refine mP_getI rfl (by assumption) ?_ | refine mP_getR rfl (by assumption) (by assumption) ?_ | refine mP_getLv rfl (by assumption) (by assumption) ?_ | refine mP_getL rfl (by assumption) ?_) | ((show mP _ _ _ _ (_ :: Value.ref _ :: _) _ _); first | refine mP_putI rfl (by assumption) ?_ | refine mP_putL rfl (by assumption) ?_)); (try dsimp only))
  exact mP_ret rfl rfl ⟨rfl, rfl⟩
theorem sp_secondOf {d : Nat} {M : mM} {a f g n t i : Nat} {F G : Nat → Nat} (hA : cpAt M a f g) (hC : cpA n t F G) (hR : cpR n t F G (mi M a) (mi M f) (mi M g)) (hi : i < n) : mR d mCouples_secondOf [.ref a, .int (nI i)] M (some (.int (nI (G i)))) M := by
  obtain ⟨ka, kf, kg, rf, rg⟩ := id hA
  have hn := hC.le
  show mP d mCouples_secondOf 0 [.ref a, .int (nI i)] [] M _
  (repeat (first | refine mP_go rfl rfl ?_ | ((show mP _ _ _ _ (Value.ref _ :: _) _ _); first | refine mP_getIv rfl (by assumption) (by assumption) ?_ | refine mP_getI rfl (by assumption) ?_ | refine mP_getR rfl (by assumption) (by assumption) ?_ | refine mP_getLv rfl (by assumption) (by assumption) ?_ | refine mP_getL rfl (by assumption) ?_) | ((show mP _ _ _ _ (_ :: Value.ref _ :: _) _ _); first | refine mP_putI rfl (by assumption) ?_ | refine mP_putL rfl (by assumption) ?_)); (try dsimp only))
  refine mP_ifF rfl (decide_eq_false (nI_pos (by omega))) ?_
  (repeat (first | refine mP_go rfl rfl ?_ | ((show mP _ _ _ _ (Value.ref _ :: _) _ _); first | refine mP_getIv rfl (by assumption) (by assumption) ?_ | refine mP_getI rfl (by assumption) ?_ | refine mP_getR rfl (by assumption) (by assumption) ?_ | refine mP_getLv rfl (by assumption) (by assumption) ?_ | refine mP_getL rfl (by assumption) ?_) | ((show mP _ _ _ _ (_ :: Value.ref _ :: _) _ _); first | refine mP_putI rfl (by assumption) ?_ | refine mP_putL rfl (by assumption) ?_)); (try dsimp only))
  rw [hR.1]
  refine mP_cmpF rfl (decide_eq_false (nI_ge hi (by omega))) ?_
  (repeat (first | refine mP_go rfl rfl ?_ | ((show mP _ _ _ _ (Value.ref _ :: _) _ _); first | refine mP_getIv rfl (by assumption) (by assumption) ?_ | refine mP_getI rfl (by assumption) ?_ | refine mP_getR rfl (by assumption) (by assumption) ?_ | refine mP_getLv rfl (by assumption) (by assumption) ?_ | refine mP_getL rfl (by assumption) ?_) | ((show mP _ _ _ _ (_ :: Value.ref _ :: _) _ _); first | refine mP_putI rfl (by assumption) ?_ | refine mP_putL rfl (by assumption) ?_)); (try dsimp only))
  refine mP_iald rfl kg (by omega) (by decide) ?_
  rw [(hR.2.2 i hi).2]
  (repeat (first | refine mP_go rfl rfl ?_ | ((show mP _ _ _ _ (Value.ref _ :: _) _ _); first | refine mP_getIv rfl (by assumption) (by assumption) ?_ | refine mP_getI rfl (by assumption) ?_ | refine mP_getR rfl (by assumption) (by assumption) ?_ | refine mP_getLv rfl (by assumption) (by assumption) ?_ | refine mP_getL rfl (by assumption) ?_) | ((show mP _ _ _ _ (_ :: Value.ref _ :: _) _ _); first | refine mP_putI rfl (by assumption) ?_ | refine mP_putL rfl (by assumption) ?_)); (try dsimp only))
  exact mP_ret rfl rfl ⟨rfl, rfl⟩
/-- a wish has a team from n on -/
theorem sp_reach {d : Nat} {M : mM} {a f g n t k : Nat} {F G : Nat → Nat} (hA : cpAt M a f g) (hC : cpA n t F G) (hR : cpR n t F G (mi M a) (mi M f) (mi M g)) (hk : k < 31) : mR d mCouples_reach [.ref a, .int (nI k)] M (some (.int (bI (decide (2 ^ k ≤ t))))) M := by
  have ka := hA.1
  have ht := hC.1
  show mP d mCouples_reach 0 [.ref a, .int (nI k)] [] M _
  (repeat (first | refine mP_go rfl rfl ?_ | ((show mP _ _ _ _ (Value.ref _ :: _) _ _); first | refine mP_getIv rfl (by assumption) (by assumption) ?_ | refine mP_getI rfl (by assumption) ?_ | refine mP_getR rfl (by assumption) (by assumption) ?_ | refine mP_getLv rfl (by assumption) (by assumption) ?_ | refine mP_getL rfl (by assumption) ?_) | ((show mP _ _ _ _ (_ :: Value.ref _ :: _) _ _); first | refine mP_putI rfl (by assumption) ?_ | refine mP_putL rfl (by assumption) ?_)); (try dsimp only))
  rw [hR.2.1, nI_shr (by omega) (by omega)]
  by_cases h : 2 ^ k ≤ t
  · have h1 : 0 < t / 2 ^ k := Nat.div_pos h (Nat.two_pow_pos k)
    have h2 : t / 2 ^ k ≤ t := Nat.div_le_self _ _
    refine mP_ifF rfl (decide_eq_false (nI_ne0 h1 (by omega))) ?_
    (repeat (first | refine mP_go rfl rfl ?_ | ((show mP _ _ _ _ (Value.ref _ :: _) _ _); first | refine mP_getIv rfl (by assumption) (by assumption) ?_ | refine mP_getI rfl (by assumption) ?_ | refine mP_getR rfl (by assumption) (by assumption) ?_ | refine mP_getLv rfl (by assumption) (by assumption) ?_ | refine mP_getL rfl (by assumption) ?_) | ((show mP _ _ _ _ (_ :: Value.ref _ :: _) _ _); first | refine mP_putI rfl (by assumption) ?_ | refine mP_putL rfl (by assumption) ?_)); (try dsimp only))
    exact mP_ret rfl rfl ⟨by rw [decide_eq_true h]; rfl, rfl⟩
  · have h1 : t / 2 ^ k = 0 := Nat.div_eq_of_lt (by omega)
    rw [h1]
    refine mP_ifT rfl rfl ?_
    (repeat (first | refine mP_go rfl rfl ?_ | ((show mP _ _ _ _ (Value.ref _ :: _) _ _); first | refine mP_getIv rfl (by assumption) (by assumption) ?_ | refine mP_getI rfl (by assumption) ?_ | refine mP_getR rfl (by assumption) (by assumption) ?_ | refine mP_getLv rfl (by assumption) (by assumption) ?_ | refine mP_getL rfl (by assumption) ?_) | ((show mP _ _ _ _ (_ :: Value.ref _ :: _) _ _); first | refine mP_putI rfl (by assumption) ?_ | refine mP_putL rfl (by assumption) ?_)); (try dsimp only))
    exact mP_ret rfl rfl ⟨by rw [decide_eq_false h]; rfl, rfl⟩
