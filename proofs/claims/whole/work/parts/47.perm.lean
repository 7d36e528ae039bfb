/-! NAMINGS in their order: pure -/
def pmN (N : Nat) (p : Nat → Nat) : Prop := (∀ i, i < N → p i < N) ∧ (∀ i j, i < N → j < N → p i = p j → i = j)
def ltL (N : Nat) (p q : Nat → Nat) : Prop := ∃ i, i < N ∧ (∀ j, j < i → p j = q j) ∧ p i < q i
def vlL (p : Nat → Nat) : Nat → Nat
  | 0 => 0
  | k + 1 => 16 * vlL p k + p k
theorem vlL_lt {N : Nat} {p : Nat → Nat} (hN : N ≤ 16) (hp : ∀ i, i < N → p i < N) : ∀ k, k ≤ N → vlL p k < 16 ^ k := by
  intro k
  induction k with
  | zero => intro _; exact Nat.one_pos
  | succ k ih =>
    intro hk
    have h1 := ih (by omega)
    have h2 := hp k (by omega)
    rw [vlL, Nat.pow_succ]
    omega
theorem ltL_vl {N : Nat} {p q : Nat → Nat} (hN : N ≤ 16) (hp : ∀ i, i < N → p i < N) (h : ltL N p q) : vlL p N < vlL q N := by
  obtain ⟨i, hi, he, hl⟩ := h
  have h0 : ∀ k, k ≤ i → vlL p k = vlL q k := by
    intro k
    induction k with
    | zero => intro _; rfl
    | succ k ih =>
      intro hk
      rw [vlL, vlL, ih (by omega), he k (by omega)]
  have h1 : ∀ f, i + 1 + f ≤ N → vlL p (i + 1 + f) < vlL q (i + 1 + f) := by
    intro f
    induction f with
    | zero =>
      intro _
      show 16 * vlL p i + p i < 16 * vlL q i + q i
      rw [h0 i (Nat.le_refl i)]
      omega
    | succ f ih =>
      intro hf
      have h2 := ih (by omega)
      have h3 := hp (i + 1 + f) (by omega)
      show 16 * vlL p (i + 1 + f) + p (i + 1 + f) < 16 * vlL q (i + 1 + f) + q (i + 1 + f)
      omega
  have := h1 (N - (i + 1)) (by omega)
  rwa [show i + 1 + (N - (i + 1)) = N by omega] at this
/-- a value of another naming that agrees before k lies at k or behind -/
theorem pm_behind {N : Nat} {p r : Nat → Nat} (hp : pmN N p) (hr : pmN N r) {k : Nat} (hk : k < N) (he : ∀ j, j < k → p j = r j) : ∃ m, k ≤ m ∧ m < N ∧ p m = r k := by
  obtain ⟨m, hm, h⟩ := inj_surj N p hp.1 hp.2 (r k) (hr.1 k hk)
  refine ⟨m, ?_, hm, h⟩
  rcases Nat.lt_or_ge m k with q | q
  · have h2 := he m q
    have h3 := hr.2 m k hm hk (by omega)
    omega
  · exact q
/-- falling from i + 1 on -/
def fallN (N : Nat) (p : Nat → Nat) (i : Nat) : Prop := ∀ j k, i ≤ j → j < k → k < N → p k < p j
theorem pm_last {N : Nat} {p r : Nat → Nat} (hp : pmN N p) (hr : pmN N r) (hf : fallN N p 0) : ¬ ltL N p r := by
  rintro ⟨k, hk, he, hl⟩
  obtain ⟨m, h1, h2, h3⟩ := pm_behind hp hr hk he
  rcases Nat.eq_or_lt_of_le h1 with q | q
  · subst q; omega
  · have := hf k m (by omega) q h2
    omega
/-- what the step to the next naming makes: the place i that grows, j the one it takes from -/
def nxP (N : Nat) (p q : Nat → Nat) (i j : Nat) : Prop :=
  i < j ∧ j < N ∧ fallN N p (i + 1) ∧ p i < p j ∧ (∀ m, j < m → m < N → p m < p i) ∧
  (∀ k, k < i → q k = p k) ∧ q i = p j ∧ (∀ k, i < k → k < N → q k = if N + i - k = j then p i else p (N + i - k))
theorem nx_pm {N : Nat} {p q : Nat → Nat} {i j : Nat} (hp : pmN N p) (h : nxP N p q i j) : pmN N q := by
  obtain ⟨h1, h2, h3, h4, h5, h6, h7, h8⟩ := h
  -- the place that q's value at k comes from
  have src : ∀ k, k < N → ∃ s, s < N ∧ q k = p s ∧ s = (if k < i then k else if k = i then j else if N + i - k = j then i else N + i - k) := by
    intro k hk
    rcases Nat.lt_trichotomy k i with c | c | c
    · exact ⟨k, hk, h6 k c, by rw [if_pos c]⟩
    · subst c; exact ⟨j, h2, h7, by rw [if_neg (by omega), if_pos rfl]⟩
    · have := h8 k c hk
      by_cases c2 : N + i - k = j
      · rw [if_pos c2] at this
        exact ⟨i, by omega, this, by rw [if_neg (by omega), if_neg (by omega), if_pos c2]⟩
      · rw [if_neg c2] at this
        exact ⟨N + i - k, by omega, this, by rw [if_neg (by omega), if_neg (by omega), if_neg c2]⟩
  refine ⟨fun k hk => ?_, fun a b ha hb he => ?_⟩
  · obtain ⟨s, s1, s2, -⟩ := src k hk
    rw [s2]; exact hp.1 s s1
  · obtain ⟨s, s1, s2, s3⟩ := src a ha
    obtain ⟨t, t1, t2, t3⟩ := src b hb
    have := hp.2 s t s1 t1 (by omega)
    subst this
    rw [s3] at t3
    split at t3 <;> split at t3 <;> (try split at t3) <;> (try split at t3) <;> (try split at t3) <;> (try split at t3) <;> omega
theorem nx_lt {N : Nat} {p q : Nat → Nat} {i j : Nat} (h : nxP N p q i j) : ltL N p q := by
  obtain ⟨h1, h2, h3, h4, h5, h6, h7, h8⟩ := h
  exact ⟨i, by omega, fun k hk => (h6 k hk).symm, by omega⟩
/-- the tail of q rises -/
theorem nx_up {N : Nat} {p q : Nat → Nat} {i j : Nat} (h : nxP N p q i j) : ∀ a b, i < a → a < b → b < N → q a < q b := by
  obtain ⟨h1, h2, h3, h4, h5, h6, h7, h8⟩ := h
  intro a b ha hab hb
  rw [h8 a ha (by omega), h8 b (by omega) hb]
  have f1 : ∀ m, i < m → m < j → p i < p m := fun m hm hm2 => by have := h3 m j (by omega) hm2 h2; omega
  by_cases c1 : N + i - a = j
  · rw [if_pos c1, if_neg (by omega)]
    exact f1 _ (by omega) (by omega)
  · rw [if_neg c1]
    by_cases c2 : N + i - b = j
    · rw [if_pos c2]
      exact h5 _ (by omega) (by omega)
    · rw [if_neg c2]
      exact h3 _ _ (by omega) (by omega) (by omega)
/-- no naming lies between -/
theorem nx_next {N : Nat} {p q r : Nat → Nat} {i j : Nat} (hp : pmN N p) (hr : pmN N r) (h : nxP N p q i j) (hl : ltL N p r) : ¬ ltL N r q := by
  have hq := nx_pm hp h
  have hup := nx_up h
  obtain ⟨h1, h2, h3, h4, h5, h6, h7, h8⟩ := h
  obtain ⟨k, hk, he, hlt⟩ := hl
  rintro ⟨k2, hk2, he2, hlt2⟩
  obtain ⟨m, m1, m2, m3⟩ := pm_behind hp hr hk he
  have hki : k ≤ i := by
    rcases Nat.lt_or_ge i k with c | c
    · exfalso
      rcases Nat.eq_or_lt_of_le m1 with q | q
      · subst q; omega
      · have := h3 k m (by omega) q m2
        omega
    · exact c
  rcases Nat.eq_or_lt_of_le hki with c | c
  · subst c
    -- r k is one of the greater ones behind, so at least q k
    have hge : q k ≤ r k := by
      rw [h7, ← m3]
      rcases Nat.lt_trichotomy m j with a | a | a
      · rcases Nat.eq_or_lt_of_le m1 with b | b
        · subst b; omega
        · have := h3 m j (by omega) a h2; omega
      · subst a; omega
      · have := h5 m a m2; omega
    rcases Nat.lt_trichotomy k2 k with a | a | a
    · have := he k2 a; have := h6 k2 a; omega
    · subst a; omega
    · obtain ⟨m', n1, n2, n3⟩ := pm_behind hq hr hk2 (fun j hj => (he2 j hj).symm)
      rcases Nat.eq_or_lt_of_le n1 with b | b
      · subst b; omega
      · have := hup k2 m' a b n2
        omega
  · rcases Nat.lt_trichotomy k2 k with a | a | a
    · have := he k2 a; have := h6 k2 (by omega); omega
    · subst a; have := h6 k2 c; omega
    · have := he2 k a; have := h6 k c; omega
theorem ltL_tri {N : Nat} (p r : Nat → Nat) : (∀ i, i < N → p i = r i) ∨ ltL N p r ∨ ltL N r p := by
  induction N with
  | zero => exact Or.inl (fun i hi => by omega)
  | succ N ih =>
    rcases ih with h | ⟨i, h1, h2, h3⟩ | ⟨i, h1, h2, h3⟩
    · rcases Nat.lt_trichotomy (p N) (r N) with c | c | c
      · exact Or.inr (Or.inl ⟨N, by omega, fun j hj => h j hj, c⟩)
      · refine Or.inl (fun i hi => ?_)
        by_cases q : i = N
        · subst q; exact c
        · exact h i (by omega)
      · exact Or.inr (Or.inr ⟨N, by omega, fun j hj => (h j hj).symm, c⟩)
    · exact Or.inr (Or.inl ⟨i, by omega, h2, h3⟩)
    · exact Or.inr (Or.inr ⟨i, by omega, h2, h3⟩)
/-- all namings up to q, knowing those up to p -/
theorem nx_all {N : Nat} {p q : Nat → Nat} {i j : Nat} (hp : pmN N p) (h : nxP N p q i j) {C : (Nat → Nat) → Prop} (hC : ∀ a b, (∀ i, i < N → a i = b i) → C a → C b) (h1 : ∀ r, pmN N r → ¬ ltL N p r → C r) (h2 : C q) : ∀ r, pmN N r → ¬ ltL N q r → C r := by
  intro r hr hl
  rcases ltL_tri (N := N) p r with c | c | c
  · refine h1 r hr (fun ⟨i, a, _, b⟩ => by have := c i a; omega)
  · have := nx_next hp hr h c
    rcases ltL_tri (N := N) q r with e | e | e
    · exact hC q r e h2
    · exact absurd e hl
    · exact absurd e this
  · exact h1 r hr (fun ⟨i, a, b, e⟩ => by
      obtain ⟨i2, a2, b2, e2⟩ := c
      rcases Nat.lt_trichotomy i i2 with q | q | q
      · have := b2 i q; omega
      · subst q; omega
      · have := b i2 q; omega)
/-! a naming without clashes -/
def swN (r : Nat → Nat) (a b : Nat) : Nat → Nat := fun u => if u = a then r b else if u = b then r a else r u
theorem swN_pm {N : Nat} {r : Nat → Nat} (hr : pmN N r) {a b : Nat} (ha : a < N) (hb : b < N) : pmN N (swN r a b) := by
  have src : ∀ w, w < N → ∃ s, s < N ∧ swN r a b w = r s ∧ s = (if w = a then b else if w = b then a else w) := by
    intro w hw
    unfold swN
    by_cases c1 : w = a
    · rw [if_pos c1, if_pos c1]; exact ⟨b, hb, rfl, rfl⟩
    · rw [if_neg c1, if_neg c1]
      by_cases c2 : w = b
      · rw [if_pos c2, if_pos c2]; exact ⟨a, ha, rfl, rfl⟩
      · rw [if_neg c2, if_neg c2]; exact ⟨w, hw, rfl, rfl⟩
  refine ⟨fun u hu => ?_, fun u v hu hv he => ?_⟩
  · obtain ⟨s, s1, s2, -⟩ := src u hu
    rw [s2]; exact hr.1 s s1
  · obtain ⟨s, s1, s2, s3⟩ := src u hu
    obtain ⟨t, t1, t2, t3⟩ := src v hv
    have := hr.2 s t s1 t1 (by omega)
    subst this
    rw [s3] at t3
    split at t3 <;> split at t3 <;> (try split at t3) <;> (try split at t3) <;> omega
theorem zero_nm {N : Nat} {c F G : Nat → Nat} (hc : ∀ s, s < N → c s < N ∧ c s ≠ s ∧ c (c s) = s) (n : Nat) (hD : ∀ i j, i < n → j < n → F i ≠ G j ∧ (i ≠ j → F i ≠ F j ∧ G i ≠ G j)) : ∀ k, k ≤ n → ∃ r, pmN N r ∧ ∀ i, i < k → F i < N → G i < N → r (G i) = c (r (F i)) := by
  intro k
  induction k with
  | zero => intro _; exact ⟨fun u => u, ⟨fun i h => h, fun i j _ _ h => h⟩, fun i hi => by omega⟩
  | succ k ih =>
    intro hk
    obtain ⟨r, hr, h⟩ := ih (by omega)
    by_cases cc : F k < N ∧ G k < N
    · obtain ⟨c1, c2⟩ := cc
      have hra := hr.1 _ c1
      obtain ⟨t, ht, he⟩ := inj_surj N r hr.1 hr.2 (c (r (F k))) (hc _ hra).1
      refine ⟨swN r (G k) t, swN_pm hr c2 ht, fun i hi f1 f2 => ?_⟩
      have d1 := hD k k (by omega) (by omega)
      have htF : t ≠ F k := fun q => by rw [q] at he; exact (hc _ hra).2.1 he.symm
      by_cases ci : i = k
      · subst ci
        unfold swN
        rw [if_pos rfl, if_neg d1.1, if_neg (fun q => htF q.symm), he]
      · have hik := h i (by omega) f1 f2
        have d2 := hD i k (by omega) (by omega)
        have d3 := hD k i (by omega) (by omega)
        have e1 : t ≠ F i := fun q => by
          subst q
          rw [he, (hc _ hra).2.2] at hik
          exact d3.1 (hr.2 _ _ f2 c1 hik).symm
        have e2 : t ≠ G i := fun q => by
          subst q
          rw [he] at hik
          have h3 := congrArg c hik
          rw [(hc _ hra).2.2, (hc _ (hr.1 _ f1)).2.2] at h3
          exact (d2.2 ci).1 (hr.2 _ _ c1 f1 h3).symm
        unfold swN
        rw [if_neg (d2.2 ci).2, if_neg (fun q => e2 q.symm), if_neg d2.1, if_neg (fun q => e1 q.symm)]
        exact hik
    · refine ⟨r, hr, fun i hi f1 f2 => ?_⟩
      by_cases ci : i = k
      · subst ci; exact absurd ⟨f1, f2⟩ cc
      · exact h i (by omega) f1 f2
