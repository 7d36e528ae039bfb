/-! NAMES: pure -/
theorem Fr.put {S P : List Nat} {M M' : mM} (h : Fr S P M M') {a : Nat} (f : Nat → Int32) (ha : a ∈ S := by decide) (h28 : a ≠ 28 := by decide) : Fr S P M (wI M' a f) :=
  (h.trans (Fr_wI M' a f h28)).weaken (fun b hb => by rcases List.mem_append.mp hb with q | q; exact q; rw [List.mem_singleton.mp q]; exact ha) (fun b hb => by rcases List.mem_append.mp hb with q | q; exact q; cases q)
theorem Fr.putL {S P : List Nat} {M M' : mM} (h : Fr S P M M') {a : Nat} (f : Nat → Int64) (ha : a ∈ S := by decide) : Fr S P M (wL M' a f) :=
  (h.trans (Fr_wL M' a f)).weaken (fun b hb => by rcases List.mem_append.mp hb with q | q; exact q; rw [List.mem_singleton.mp q]; exact ha) (fun b hb => by rcases List.mem_append.mp hb with q | q; exact q; cases q)
theorem Fr.p28 {S P : List Nat} {M M' : mM} (h : Fr S P M M') {p : Nat} (x : Int32) (hp : p ∈ P := by decide) : Fr S P M (wI M' 28 (va_up (mi M' 28) p x)) :=
  (h.trans (Fr_w28 M' p x)).weaken (fun b hb => by rcases List.mem_append.mp hb with q | q; exact q; cases q) (fun b hb => by rcases List.mem_append.mp hb with q | q; exact q; rw [List.mem_singleton.mp q]; exact hp)
theorem Fr.nil {S P : List Nat} (M : mM) : Fr S P M M := (Fr_rfl M).weaken (fun _ h => by cases h) (fun _ h => by cases h)
theorem mP_ex {d y : Nat} {as : List Value} {M : mM} {v : Option Value} {R : mM → Prop} (h : mP d y 0 (mEntry y as) [] M (fun o M' => o = .inl v ∧ R M')) : ∃ M2, mR d y as M v M2 ∧ R M2 := by
  obtain ⟨n, x, h1, h2, h3⟩ := h
  exact ⟨x.2, ⟨n, x, h1, h2, rfl⟩, h3⟩
/-- a call that throws -/
def mT (d y : Nat) (as : List Value) (M : mM) (ex : Nat) : Prop := mP d y 0 (mEntry y as) [] M (fun o M' => o = .inr ex ∧ M' = mNew M ex 6)
theorem inj_surj : ∀ (n : Nat) (f : Nat → Nat), (∀ i, i < n → f i < n) → (∀ i j, i < n → j < n → f i = f j → i = j) → ∀ k, k < n → ∃ i, i < n ∧ f i = k := by
  intro n
  induction n with
  | zero => intro f _ _ k hk; omega
  | succ n ih =>
    intro f h1 h2 k hk
    -- move the value n to the last place
    by_cases c : ∃ i, i < n + 1 ∧ f i = n
    · obtain ⟨m, hm, hfm⟩ := c
      by_cases ck : k = n
      · exact ⟨m, hm, by omega⟩
      · -- g: f with the value of the last place put at m
        have h3 : ∀ i, i < n → (if i = m then f n else f i) < n := by
          intro i hi
          split
          · have := h1 n (by omega)
            by_cases q : f n = n
            · have := h2 n m (by omega) hm (by omega)
              omega
            · omega
          · rename_i hne
            have := h1 i (by omega)
            by_cases q : f i = n
            · have := h2 i m (by omega) hm (by omega)
              omega
            · omega
        have h4 : ∀ i j, i < n → j < n → (if i = m then f n else f i) = (if j = m then f n else f j) → i = j := by
          intro i j hi hj he
          by_cases ci : i = m
          · by_cases cj : j = m
            · omega
            · rw [if_pos ci, if_neg cj] at he
              have := h2 n j (by omega) (by omega) he
              omega
          · by_cases cj : j = m
            · rw [if_neg ci, if_pos cj] at he
              have := h2 i n (by omega) (by omega) he
              omega
            · rw [if_neg ci, if_neg cj] at he
              exact h2 i j (by omega) (by omega) he
        obtain ⟨i, hi, he⟩ := ih (fun i => if i = m then f n else f i) h3 h4 k (by omega)
        by_cases ci : i = m
        · rw [if_pos ci] at he
          exact ⟨n, by omega, he⟩
        · rw [if_neg ci] at he
          exact ⟨i, by omega, he⟩
    · exfalso
      have h3 : ∀ i, i < n + 1 → f i < n := by
        intro i hi
        have := h1 i hi
        by_cases q : f i = n
        · exact absurd ⟨i, hi, q⟩ c
        · omega
      obtain ⟨i, hi, he⟩ := ih f (fun i hi => h3 i (by omega)) (fun i j hi hj => h2 i j (by omega) (by omega)) (f n) (h3 n (by omega))
      have := h2 i n (by omega) (by omega) he
      omega
theorem countP_le_of {p : Nat → Bool} {N : Nat} (h : ∀ j, p j = true → j < N) : ∀ m, (List.range m).countP p ≤ m ∧ (List.range m).countP p ≤ N := by
  intro m
  have h0 : (List.range m).countP p ≤ m := by
    have := List.countP_le_length (p := p) (l := List.range m)
    rwa [List.length_range] at this
  refine ⟨h0, ?_⟩
  induction m with
  | zero => simp
  | succ m ih =>
    have ih := ih (by have := List.countP_le_length (p := p) (l := List.range m); rwa [List.length_range] at this)
    by_cases c : p m = true
    · have := h m c
      omega
    · rw [List.range_succ, List.countP_append]
      have e : List.countP p [m] = 0 := by simp [c]
      omega
theorem cpA.half {n t N : Nat} {F G : Nat → Nat} (h : cpA n t F G) (ht : t < 2 ^ N) : 2 * n ≤ N := by
  rw [← h.2.2.2.1]
  refine (countP_le_of (fun j hj => ?_) 16).2
  rcases Nat.lt_or_ge j N with q | q
  · exact q
  · have h1 := Nat.ge_two_pow_of_testBit hj
    have h2 : 2 ^ N ≤ 2 ^ j := Nat.pow_le_pow_right (by decide) q
    omega
theorem cpA.below {n t N : Nat} {F G : Nat → Nat} (h : cpA n t F G) (ht : t < 2 ^ N) : ∀ i, i < n → F i < N ∧ G i < N := by
  intro i hi
  have key : ∀ j, t.testBit j = true → j < N := by
    intro j hj
    rcases Nat.lt_or_ge j N with q | q
    · exact q
    · have h1 := Nat.ge_two_pow_of_testBit hj
      have h2 : 2 ^ N ≤ 2 ^ j := Nat.pow_le_pow_right (by decide) q
      omega
  exact ⟨key _ ((h.2.2.1 _ (h.2.1 i hi).1).mpr ⟨i, hi, Or.inl rfl⟩), key _ ((h.2.2.1 _ (h.2.1 i hi).2).mpr ⟨i, hi, Or.inr rfl⟩)⟩
theorem cpA.over {n t N : Nat} {F G : Nat → Nat} (h : cpA n t F G) (ht : 2 ^ N ≤ t) : ∃ i, i < n ∧ (N ≤ F i ∨ N ≤ G i) := by
  obtain ⟨j, hj, hb⟩ := Nat.exists_ge_and_testBit_of_ge_two_pow ht
  have hj16 : j < 16 := by
    have h1 := Nat.ge_two_pow_of_testBit hb
    have := h.1
    rcases Nat.lt_or_ge j 16 with q | q
    · exact q
    · have h2 : 2 ^ 16 ≤ 2 ^ j := Nat.pow_le_pow_right (by decide) q
      omega
  obtain ⟨i, hi, q | q⟩ := (h.2.2.1 j hj16).mp hb
  · exact ⟨i, hi, Or.inl (by omega)⟩
  · exact ⟨i, hi, Or.inr (by omega)⟩
section Nm
variable (N n t : Nat) (F G : Nat → Nat)
/-- the first k wishes seated -/
def wP (k s : Nat) : Int := if s < k then F s else if N - 1 - s < k then G (N - 1 - s) else -1
def wQ : Nat → Nat → Int
  | 0 => fun _ => -1
  | k + 1 => va_up (va_up (wQ k) (F k) k) (G k) ((N - 1 - k : Nat) : Int)
def nf (P : Nat → Int) : Nat → Nat → Nat
  | 0, s => s
  | f + 1, s => if P s = -1 then s else nf P f (s + 1)
def fl : Nat → (Nat → Int) × (Nat → Int) × Nat
  | 0 => (wP N F G n, wQ N F G n, 0)
  | k + 1 => if t.testBit k then fl k else
      (va_up (fl k).1 (nf (fl k).1 (N - (fl k).2.2) (fl k).2.2) k, va_up (fl k).2.1 k (nf (fl k).1 (N - (fl k).2.2) (fl k).2.2 : Nat), nf (fl k).1 (N - (fl k).2.2) (fl k).2.2)
end Nm
theorem nf_ok {P : Nat → Int} {N : Nat} : ∀ f s, s + f = N → (∃ j, s ≤ j ∧ j < N ∧ P j = -1) → s ≤ nf P f s ∧ nf P f s < N ∧ P (nf P f s) = -1 ∧ ∀ j, s ≤ j → j < nf P f s → P j ≠ -1 := by
  intro f
  induction f with
  | zero => intro s hs ⟨j, h1, h2, _⟩; omega
  | succ f ih =>
    intro s hs hx
    rw [nf]
    by_cases c : P s = -1
    · rw [if_pos c]
      exact ⟨Nat.le_refl _, by omega, c, fun j h1 h2 => by omega⟩
    · rw [if_neg c]
      have hx2 : ∃ j, s + 1 ≤ j ∧ j < N ∧ P j = -1 := by
        obtain ⟨j, h1, h2, h3⟩ := hx
        refine ⟨j, ?_, h2, h3⟩
        rcases Nat.eq_or_lt_of_le h1 with q | q
        · subst q; exact absurd h3 c
        · omega
      obtain ⟨q1, q2, q3, q4⟩ := ih (s + 1) (by omega) hx2
      refine ⟨by omega, q2, q3, fun j h1 h2 => ?_⟩
      rcases Nat.eq_or_lt_of_le h1 with q | q
      · subst q; exact c
      · exact q4 j (by omega) h2
/-- what holds of names under way -/
def tInv (N t k : Nat) (P Q : Nat → Int) (slot : Nat) : Prop :=
  (∀ s, s < N → P s = -1 ∨ ∃ u : Nat, u < N ∧ P s = u ∧ Q u = s) ∧ (∀ u, u < N → (Q u = -1 ∧ t.testBit u = false ∧ k ≤ u) ∨ ((t.testBit u = true ∨ u < k) ∧ ∃ s : Nat, s < N ∧ Q u = s ∧ P s = u)) ∧ (∀ s, s < slot → P s ≠ -1) ∧ slot ≤ N
theorem wQ_ok {N n : Nat} {F G : Nat → Nat} (hD : cpD n F G) : ∀ k, k ≤ n → (∀ i, i < k → wQ N F G k (F i) = i ∧ wQ N F G k (G i) = ((N - 1 - i : Nat) : Int)) ∧ (∀ u, (∀ i, i < k → u ≠ F i ∧ u ≠ G i) → wQ N F G k u = -1) := by
  intro k
  induction k with
  | zero => intro _; exact ⟨fun i hi => by omega, fun u _ => rfl⟩
  | succ k ih =>
    intro hk
    obtain ⟨h1, h2⟩ := ih (by omega)
    refine ⟨fun i hi => ?_, fun u hu => ?_⟩
    · rw [wQ]
      by_cases c : i = k
      · subst c
        have := (hD i i (by omega) (by omega)).1
        rw [mU_ne this, mU_eq, mU_eq]
        exact ⟨rfl, rfl⟩
      · have d1 := hD i k (by omega) (by omega)
        have d2 := hD k i (by omega) (by omega)
        rw [mU_ne d1.1, mU_ne (d1.2 c).1, mU_ne (d1.2 c).2, mU_ne (fun q => d2.1 q.symm)]
        exact h1 i (by omega)
    · rw [wQ]
      have := hu k (by omega)
      rw [mU_ne this.2, mU_ne this.1]
      exact h2 u (fun i hi => hu i (by omega))
theorem wInv {N n t : Nat} {F G : Nat → Nat} (h : cpA n t F G) (ht : t < 2 ^ N) (hN : N ≤ 16) : tInv N t 0 (wP N F G n) (wQ N F G n) 0 := by
  have hh := h.half ht
  have hb := h.below ht
  obtain ⟨q1, q2⟩ := wQ_ok (N := N) h.2.2.2.2 n (Nat.le_refl n)
  refine ⟨fun s hs => ?_, fun u hu => ?_, fun s hs => by omega, by omega⟩
  · unfold wP
    by_cases c1 : s < n
    · rw [if_pos c1]
      exact Or.inr ⟨F s, (hb s c1).1, rfl, (q1 s c1).1⟩
    · rw [if_neg c1]
      by_cases c2 : N - 1 - s < n
      · rw [if_pos c2]
        refine Or.inr ⟨_, (hb _ c2).2, rfl, ?_⟩
        rw [(q1 _ c2).2]
        congr 1
        omega
      · rw [if_neg c2]
        exact Or.inl rfl
  · cases hbt : t.testBit u with
    | true =>
      refine Or.inr ⟨Or.inl rfl, ?_⟩
      obtain ⟨i, hi, q | q⟩ := (h.2.2.1 u (by omega)).mp hbt
      · refine ⟨i, by omega, by rw [← q]; exact (q1 i hi).1, ?_⟩
        rw [wP, if_pos hi, q]
      · refine ⟨N - 1 - i, by omega, by rw [← q]; exact (q1 i hi).2, ?_⟩
        rw [wP, if_neg (by omega), if_pos (by omega), show N - 1 - (N - 1 - i) = i by omega, q]
    | false =>
      refine Or.inl ⟨q2 u (fun i hi => ⟨fun q => ?_, fun q => ?_⟩), rfl, by omega⟩
      · have := (h.2.2.1 u (by omega)).mpr ⟨i, hi, Or.inl q.symm⟩
        rw [hbt] at this; cases this
      · have := (h.2.2.1 u (by omega)).mpr ⟨i, hi, Or.inr q.symm⟩
        rw [hbt] at this; cases this
/-- while a team is not seated, a slot is free -/
theorem tInv.free {N t k : Nat} {P Q : Nat → Int} {slot : Nat} (h : tInv N t k P Q slot) (hk : k < N) (hb : t.testBit k = false) : ∃ j, slot ≤ j ∧ j < N ∧ P j = -1 := by
  obtain ⟨h1, h2, h3, h4⟩ := h
  apply Classical.byContradiction
  intro hno
  have full : ∀ s, s < N → ∃ u : Nat, u < N ∧ P s = u ∧ Q u = s := by
    intro s hs
    rcases h1 s hs with q | q
    · exfalso
      rcases Nat.lt_or_ge s slot with c | c
      · exact h3 s c q
      · exact hno ⟨s, c, hs, q⟩
    · exact q
  have e : ∀ s, s < N → ((P s).toNat < N ∧ P s = ((P s).toNat : Int) ∧ Q (P s).toNat = s) := by
    intro s hs
    obtain ⟨u, u1, u2, u3⟩ := full s hs
    rw [u2, Int.toNat_natCast]
    exact ⟨u1, rfl, u3⟩
  obtain ⟨s, hs, he⟩ := inj_surj N (fun s => (P s).toNat) (fun s hs => (e s hs).1) (fun i j hi hj he => by
    have a := (e i hi).2.2
    have b := (e j hj).2.2
    rw [he, b] at a
    omega) k hk
  have := (e s hs).2.2
  rw [he] at this
  rcases h2 k hk with ⟨q, -, -⟩ | ⟨q | q, -⟩
  · omega
  · rw [hb] at q; cases q
  · omega
theorem fl_inv {N n t : Nat} {F G : Nat → Nat} (h : cpA n t F G) (ht : t < 2 ^ N) (hN : N ≤ 16) : ∀ k, k ≤ N → tInv N t k (fl N n t F G k).1 (fl N n t F G k).2.1 (fl N n t F G k).2.2 := by
  intro k
  induction k with
  | zero => intro _; exact wInv h ht hN
  | succ k ih =>
    intro hk
    have ih := ih (by omega)
    rw [fl]
    cases hb : t.testBit k with
    | true =>
      rw [if_pos rfl]
      obtain ⟨h1, h2, h3, h4⟩ := ih
      refine ⟨h1, fun u hu => ?_, h3, h4⟩
      rcases h2 u hu with ⟨q1, q2, q3⟩ | ⟨q1, q2⟩
      · refine Or.inl ⟨q1, q2, ?_⟩
        rcases Nat.eq_or_lt_of_le q3 with q | q
        · subst q; rw [hb] at q2; cases q2
        · omega
      · exact Or.inr ⟨q1.imp id (fun q => by omega), q2⟩
    | false =>
      rw [if_neg (by decide)]
      have hf := ih.free (by omega) hb
      generalize hfk : fl N n t F G k = X at ih hf ⊢
      obtain ⟨P, Q, slot⟩ := X
      simp only at ih hf ⊢
      obtain ⟨h1, h2, h3, h4⟩ := ih
      obtain ⟨n1, n2, n3, n4⟩ := nf_ok (N - slot) slot (by omega) hf
      generalize nf P (N - slot) slot = s at n1 n2 n3 n4 ⊢
      have hQk : Q k = -1 := by
        rcases h2 k (by omega) with ⟨q, -, -⟩ | ⟨q | q, -⟩
        · exact q
        · rw [hb] at q; cases q
        · omega
      refine ⟨fun j hj => ?_, fun u hu => ?_, fun j hj => ?_, by omega⟩
      · by_cases c : j = s
        · subst c
          exact Or.inr ⟨k, by omega, mU_eq, mU_eq⟩
        · rw [mU_ne c]
          rcases h1 j hj with q | ⟨u, u1, u2, u3⟩
          · exact Or.inl q
          · refine Or.inr ⟨u, u1, u2, ?_⟩
            rw [mU_ne (fun q => by rw [q, hQk] at u3; omega)]
            exact u3
      · by_cases c : u = k
        · subst c
          exact Or.inr ⟨Or.inr (by omega), s, n2, mU_eq, mU_eq⟩
        · rw [mU_ne c]
          rcases h2 u hu with ⟨q1, q2, q3⟩ | ⟨q1, s2, q2, q3, q4⟩
          · exact Or.inl ⟨q1, q2, by omega⟩
          · refine Or.inr ⟨q1.imp id (fun q => by omega), s2, q2, q3, ?_⟩
            rw [mU_ne (fun q => by rw [q, n3] at q4; omega)]
            exact q4
      · by_cases c : j = s
        · subst c; rw [mU_eq]; omega
        · rw [mU_ne c]
          rcases Nat.lt_or_ge j slot with q | q
          · exact h3 j q
          · exact n4 j q hj
/-- in the end all are seated -/
theorem fl_end {N n t : Nat} {F G : Nat → Nat} (h : cpA n t F G) (ht : t < 2 ^ N) (hN : N ≤ 16) : ∃ P Q : Nat → Nat, (∀ s, s < N → P s < N ∧ Q s < N ∧ Q (P s) = s ∧ P (Q s) = s) ∧ ∀ s, s < N → (fl N n t F G N).1 s = P s ∧ (fl N n t F G N).2.1 s = Q s := by
  have hI := fl_inv h ht hN N (Nat.le_refl N)
  obtain ⟨h1, h2, -, -⟩ := hI
  generalize (fl N n t F G N).1 = P at h1 h2 ⊢
  generalize (fl N n t F G N).2.1 = Q at h1 h2 ⊢
  have hq : ∀ u, u < N → ∃ s : Nat, s < N ∧ Q u = s ∧ P s = u := by
    intro u hu
    rcases h2 u hu with ⟨-, -, q⟩ | ⟨-, q⟩
    · omega
    · exact q
  have hq2 : ∀ u, u < N → (Q u).toNat < N ∧ Q u = ((Q u).toNat : Int) ∧ P (Q u).toNat = u := by
    intro u hu
    obtain ⟨s, s1, s2, s3⟩ := hq u hu
    rw [s2, Int.toNat_natCast]
    exact ⟨s1, rfl, s3⟩
  have hp : ∀ s, s < N → ∃ u : Nat, u < N ∧ P s = u ∧ Q u = s := by
    intro s hs
    obtain ⟨u, hu, he⟩ := inj_surj N (fun u => (Q u).toNat) (fun u hu => (hq2 u hu).1) (fun i j hi hj he => by
      have a := (hq2 i hi).2.2
      have b := (hq2 j hj).2.2
      rw [he, b] at a
      omega) s hs
    have := hq2 u hu
    rw [he] at this
    exact ⟨u, hu, this.2.2, this.2.1⟩
  have hp2 : ∀ s, s < N → (P s).toNat < N ∧ P s = ((P s).toNat : Int) ∧ Q (P s).toNat = s := by
    intro s hs
    obtain ⟨u, u1, u2, u3⟩ := hp s hs
    rw [u2, Int.toNat_natCast]
    exact ⟨u1, rfl, u3⟩
  refine ⟨fun s => (P s).toNat, fun s => (Q s).toNat, fun s hs => ⟨(hp2 s hs).1, (hq2 s hs).1, ?_, ?_⟩, fun s hs => ⟨(hp2 s hs).2.1, (hq2 s hs).2.1⟩⟩
  · simp only
    rw [(hp2 s hs).2.2, Int.toNat_natCast]
  · simp only
    rw [(hq2 s hs).2.2, Int.toNat_natCast]
