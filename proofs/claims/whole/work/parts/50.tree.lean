/-! TREES: pure -/
def plf : Nat → Nat → Nat
  | 0, _ => 0
  | k + 1, s => if s % 2 = 0 then plf k (s / 2) else 2 * 2 ^ k - 1 - plf k (s / 2)
theorem plf_lt : ∀ k s, plf k s < 2 ^ k := by
  intro k
  induction k with
  | zero => intro s; exact Nat.one_pos
  | succ k ih =>
    intro s
    have h1 := ih (s / 2)
    have h2 : 2 ^ (k + 1) = 2 * 2 ^ k := by rw [Nat.pow_succ, Nat.mul_comm]
    rw [plf, h2]
    split <;> omega
theorem plf_even (k i : Nat) : plf (k + 1) (2 * i) = plf k i := by
  rw [plf, if_pos (by omega), show 2 * i / 2 = i by omega]
theorem plf_odd (k i : Nat) : plf (k + 1) (2 * i + 1) = 2 * 2 ^ k - 1 - plf k i := by
  rw [plf, if_neg (by omega), show (2 * i + 1) / 2 = i by omega]
theorem plf_inj : ∀ k s t, s < 2 ^ k → t < 2 ^ k → plf k s = plf k t → s = t := by
  intro k
  induction k with
  | zero => intro s t h1 h2 _; rw [Nat.pow_zero] at h1 h2; omega
  | succ k ih =>
    intro s t h1 h2 he
    rw [Nat.pow_succ] at h1 h2
    have a1 := plf_lt k (s / 2)
    have a2 := plf_lt k (t / 2)
    have key := ih (s / 2) (t / 2) (by omega) (by omega)
    rw [plf, plf] at he
    split at he <;> split at he
    · have := key he; omega
    · omega
    · omega
    · have := key (by omega); omega
/-- the place of a game among the winners -/
def cel (D r i : Nat) : Nat := 2 ^ D - 2 ^ (D - r) + i
theorem p2le {a b : Nat} (h : a ≤ b) : 2 ^ a ≤ 2 ^ b := Nat.pow_le_pow_right (by decide) h
theorem p2s (a : Nat) : 2 ^ (a + 1) = 2 * 2 ^ a := by rw [Nat.pow_succ, Nat.mul_comm]
theorem cel_lt {D r i : Nat} (hr : r < D) (hi : i < 2 ^ (D - 1 - r)) : cel D r i < 2 ^ D := by
  have h1 : 2 ^ (D - r) = 2 * 2 ^ (D - 1 - r) := by rw [← p2s]; congr 1; omega
  have h2 := p2le (show D - r ≤ D by omega)
  unfold cel
  omega
theorem cel_inj {D r i r' i' : Nat} (hr : r < D) (hi : i < 2 ^ (D - 1 - r)) (hr' : r' < D) (hi' : i' < 2 ^ (D - 1 - r')) (h : cel D r i = cel D r' i') : r = r' ∧ i = i' := by
  have key : ∀ {a x b y : Nat}, a < D → x < 2 ^ (D - 1 - a) → b < D → y < 2 ^ (D - 1 - b) → a < b → cel D a x < cel D b y := by
    intro a x b y ha hx hb hy hab
    have h1 : 2 ^ (D - a) = 2 * 2 ^ (D - 1 - a) := by rw [← p2s]; congr 1; omega
    have h2 := p2le (show D - a ≤ D by omega)
    have h3 := p2le (show D - b ≤ D - 1 - a by omega)
    unfold cel
    omega
  rcases Nat.lt_trichotomy r r' with c | c | c
  · have := key hr hi hr' hi' c; omega
  · subst c; unfold cel at h; exact ⟨rfl, by omega⟩
  · have := key hr' hi' hr hi c; omega
def dOK (n D : Nat) : Prop := (n = 0 ∧ D = 0) ∨ (1 ≤ D ∧ D ≤ 6 ∧ 2 ^ (D - 1) < n ∧ n ≤ 2 ^ D)
theorem dOK_ex {n : Nat} (h1 : 2 ≤ n) (h2 : n ≤ 64) : ∃ D, 1 ≤ D ∧ D ≤ 6 ∧ 2 ^ (D - 1) < n ∧ n ≤ 2 ^ D := by
  rcases Nat.lt_or_ge 2 n with c | c
  · rcases Nat.lt_or_ge 4 n with c | c
    · rcases Nat.lt_or_ge 8 n with c | c
      · rcases Nat.lt_or_ge 16 n with c | c
        · rcases Nat.lt_or_ge 32 n with c | c
          · exact ⟨6, by omega, by omega, c, h2⟩
          · exact ⟨5, by omega, by omega, by omega, c⟩
        · exact ⟨4, by omega, by omega, by omega, c⟩
      · exact ⟨3, by omega, by omega, by omega, c⟩
    · exact ⟨2, by omega, by omega, by omega, c⟩
  · exact ⟨1, by omega, by omega, by omega, c⟩
/-- the side of a game -/
def sdK (n D : Nat) (U : Nat → Nat → Int) (r i s : Nat) : Int := if r = 0 then (if plf D (2 * i + s) < n then plf D (2 * i + s) else -1) else U (r - 1) (2 * i + s)
def kJ (D : Nat) (U : Nat → Nat → Int) : Prop := ∀ r i, r < D → i < 2 ^ (D - 1 - r) → U r i = -1 ∨ ∃ s : Nat, s < 2 ^ D ∧ s / 2 ^ (r + 1) = i ∧ U r i = plf D s
def kS (D : Nat) (U : Nat → Nat → Int) : Prop := ∀ r i, r + 1 < D → i < 2 ^ (D - 1 - (r + 1)) → U (r + 1) i = -1 ∨ U (r + 1) i = U r (2 * i) ∨ U (r + 1) i = U r (2 * i + 1)
def kU (n D : Nat) (U : Nat → Nat → Int) : Prop := dOK n D ∧ (∀ i, 1 ≤ D → i < 2 ^ (D - 1) → n ≤ plf D (2 * i + 1) → U 0 i = plf D (2 * i)) ∧ kJ D U ∧ kS D U
/-- what a win leaves, the later rounds below k looked at -/
def upW (U : Nat → Nat → Int) (r i : Nat) (w l : Int) (k : Nat) : Nat → Nat → Int := fun a j => if a = r ∧ j = i then w else if r < a ∧ a < k ∧ j = i / 2 ^ (a - r) ∧ U a j = l then -1 else U a j
theorem kid_lt {D r i s : Nat} (hr : r + 1 < D) (hi : i < 2 ^ (D - 1 - (r + 1))) (hs : s < 2) : 2 * i + s < 2 ^ (D - 1 - r) := by
  have h1 : 2 ^ (D - 1 - r) = 2 * 2 ^ (D - 1 - (r + 1)) := by rw [← p2s]; congr 1; omega
  omega
theorem kU.old {n D : Nat} {U : Nat → Nat → Int} (h : kU n D U) {r i : Nat} (hr : r < D) (hi : i < 2 ^ (D - 1 - r)) (ha : sdK n D U r i 0 ≠ -1) (hb : sdK n D U r i 1 ≠ -1) : U r i = -1 ∨ U r i = sdK n D U r i 0 ∨ U r i = sdK n D U r i 1 := by
  obtain ⟨hd, -, hJ, hS⟩ := h
  cases r with
  | succ r => exact hS r i hr hi
  | zero =>
    rcases hJ 0 i hr hi with q | ⟨s, s1, s2, s3⟩
    · exact Or.inl q
    · unfold sdK at ha hb ⊢
      rw [if_pos rfl] at ha hb
      have s2 : s / 2 = i := s2
      rw [if_pos rfl, if_pos rfl]
      have c : s = 2 * i + 0 ∨ s = 2 * i + 1 := by omega
      rcases c with c | c
      · rw [← c] at ha ⊢
        by_cases q : plf D s < n
        · rw [if_pos q]; exact Or.inr (Or.inl s3)
        · rw [if_neg q] at ha; exact absurd rfl ha
      · rw [← c] at hb ⊢
        by_cases q : plf D s < n
        · rw [if_pos q]; exact Or.inr (Or.inr s3)
        · rw [if_neg q] at hb; exact absurd rfl hb
/-- a side comes from the game's own part of the places -/
theorem kU.leaf {n D : Nat} {U : Nat → Nat → Int} (h : kU n D U) {r i s : Nat} (hr : r < D) (hi : i < 2 ^ (D - 1 - r)) (hs : s < 2) (ha : sdK n D U r i s ≠ -1) : ∃ t : Nat, t < 2 ^ D ∧ t / 2 ^ (r + 1) = i ∧ sdK n D U r i s = plf D t := by
  obtain ⟨hd, -, hJ, hS⟩ := h
  unfold sdK at ha ⊢
  cases r with
  | zero =>
    rw [if_pos rfl] at ha ⊢
    by_cases q : plf D (2 * i + s) < n
    · rw [if_pos q]
      have h1 : 2 ^ D = 2 * 2 ^ (D - 1 - 0) := by rw [← p2s]; congr 1; omega
      exact ⟨2 * i + s, by omega, by show (2 * i + s) / 2 = i; omega, rfl⟩
    · rw [if_neg q] at ha; exact absurd rfl ha
  | succ r =>
    rw [if_neg (by omega), Nat.add_sub_cancel] at ha ⊢
    rcases hJ r (2 * i + s) (by omega) (kid_lt hr hi hs) with q | ⟨t, t1, t2, t3⟩
    · exact absurd q ha
    · refine ⟨t, t1, ?_, t3⟩
      rw [Nat.pow_succ, ← Nat.div_div_eq_div_mul, t2]
      omega
theorem path_s (i a r : Nat) (h : r ≤ a) : i / 2 ^ (a + 1 - r) = i / 2 ^ (a - r) / 2 := by
  rw [show a + 1 - r = (a - r) + 1 by omega, Nat.pow_succ, Nat.div_div_eq_div_mul]
theorem path_lt {D r i : Nat} (hi : i < 2 ^ (D - 1 - r)) : ∀ f, r + f < D → i / 2 ^ f < 2 ^ (D - 1 - (r + f)) := by
  intro f hf
  apply Nat.div_lt_of_lt_mul
  rw [← Nat.pow_add]
  rw [show f + (D - 1 - (r + f)) = D - 1 - r by omega]
  exact hi
/-- where the loser does not stand he does not stand further up -/
theorem win_stop {n D : Nat} {U : Nat → Nat → Int} (h : kU n D U) {r i s : Nat} (hr : r < D) (hi : i < 2 ^ (D - 1 - r)) (hs : s < 2) (ha : sdK n D U r i s ≠ -1) : ∀ k, r < k → k + 1 < D → U k (i / 2 ^ (k - r)) ≠ sdK n D U r i s → U (k + 1) (i / 2 ^ (k + 1 - r)) ≠ sdK n D U r i s := by
  intro k hk hk2 hne he
  obtain ⟨t, t1, t2, t3⟩ := h.leaf hr hi hs ha
  obtain ⟨hd, -, hJ, hS⟩ := h
  have hp := path_lt hi (k - r) (by omega)
  rw [show r + (k - r) = k by omega] at hp
  have hp2 := path_lt hi (k + 1 - r) (by omega)
  rw [show r + (k + 1 - r) = k + 1 by omega] at hp2
  have hps := path_s i k r (by omega)
  -- the child that he comes from is on the path
  have child : ∀ c, c < 2 ^ (D - 1 - k) → U k c = sdK n D U r i s → c = i / 2 ^ (k - r) := by
    intro c hc hUc
    rcases hJ k c (by omega) hc with q | ⟨t', u1, u2, u3⟩
    · rw [hUc] at q; exact absurd q ha
    · rw [hUc, t3] at u3
      have := plf_inj D t t' t1 u1 (by omega)
      subst this
      rw [← u2, ← t2, Nat.div_div_eq_div_mul, ← Nat.pow_add]
      congr 2
      omega
  have hk1 : i / 2 ^ (k + 1 - r) < 2 ^ (D - 1 - (k + 1)) := hp2
  rcases hS k _ hk2 hk1 with q | q | q
  · rw [he] at q; exact ha q
  · have := child (2 * (i / 2 ^ (k + 1 - r))) (kid_lt (s := 0) hk2 hk1 (by decide)) (by rw [← q]; exact he)
    rw [this] at q
    exact hne (by rw [← q]; exact he)
  · have := child (2 * (i / 2 ^ (k + 1 - r)) + 1) (kid_lt (s := 1) hk2 hk1 (by decide)) (by rw [← q]; exact he)
    rw [this] at q
    exact hne (by rw [← q]; exact he)
theorem win_kU {n D : Nat} {U : Nat → Nat → Int} (h : kU n D U) {r i s : Nat} (hr : r < D) (hi : i < 2 ^ (D - 1 - r)) (hs : s < 2) (ha : sdK n D U r i 0 ≠ -1) (hb : sdK n D U r i 1 ≠ -1) : kU n D (upW U r i (sdK n D U r i s) (sdK n D U r i (1 - s)) D) := by
  have hold := h.old hr hi ha hb
  have hsn : sdK n D U r i s ≠ -1 := by
    have : s = 0 ∨ s = 1 := by omega
    rcases this with rfl | rfl
    · exact ha
    · exact hb
  obtain ⟨t, t1, t2, t3⟩ := h.leaf hr hi hs hsn
  have hold2 : U r i = -1 ∨ U r i = sdK n D U r i s ∨ U r i = sdK n D U r i (1 - s) := by
    have : s = 0 ∨ s = 1 := by omega
    rcases this with rfl | rfl
    · exact hold
    · rcases hold with q | q | q
      · exact Or.inl q
      · exact Or.inr (Or.inr q)
      · exact Or.inr (Or.inl q)
  have hwin : sdK n D U r i s = sdK n D U r i s := rfl
  obtain ⟨hd, hby, hJ, hS⟩ := h
  have hside : r = 0 → plf D (2 * i + 1) < n := by
    intro q
    subst q
    unfold sdK at hb
    rw [if_pos rfl] at hb
    by_cases q : plf D (2 * i + 1) < n
    · exact q
    · rw [if_neg q] at hb; exact absurd rfl hb
  have hw1 : ∀ r', r = r' + 1 → sdK n D U r i s = U r' (2 * i + s) := by
    intro r' hr'
    subst hr'
    unfold sdK
    rw [if_neg (by omega), Nat.add_sub_cancel]
  generalize sdK n D U r i s = w at *
  generalize sdK n D U r i (1 - s) = l at *
  refine ⟨hd, fun j h1 h2 h3 => ?_, fun a j h1 h2 => ?_, fun a j h1 h2 => ?_⟩
  · unfold upW
    by_cases c : 0 = r ∧ j = i
    · have := hside c.1.symm
      rw [c.2] at h3
      omega
    · rw [if_neg c, if_neg (by omega)]
      exact hby j h1 h2 h3
  · unfold upW
    by_cases c : a = r ∧ j = i
    · rw [if_pos c, c.1, c.2]
      exact Or.inr ⟨t, t1, t2, t3⟩
    · rw [if_neg c]
      split
      · exact Or.inl rfl
      · exact hJ a j h1 h2
  · -- the sides of a later game
    have hkid : ∀ x, x < 2 → 2 * j + x < 2 ^ (D - 1 - a) := fun x hx => kid_lt h1 h2 hx
    have e1 : ∀ b y, ¬ (b = r ∧ y = i) → ¬ (r < b ∧ y = i / 2 ^ (b - r) ∧ U b y = l) → upW U r i w l D b y = U b y := by
      intro b y n1 n2
      unfold upW
      rw [if_neg n1, if_neg (fun q => n2 ⟨q.1, q.2.2⟩)]
    by_cases c0 : a + 1 = r ∧ j = i
    · -- the game itself
      have hx : upW U r i w l D (a + 1) j = w := by unfold upW; rw [if_pos c0]
      rw [hx]
      have hlow : ∀ y, upW U r i w l D a y = U a y := fun y => e1 a y (by omega) (by omega)
      rw [hlow, hlow]
      have hww := hw1 a c0.1.symm
      rw [c0.2]
      have : s = 0 ∨ s = 1 := by omega
      rcases this with rfl | rfl
      · exact Or.inr (Or.inl hww)
      · exact Or.inr (Or.inr hww)
    · by_cases c1 : r < a + 1 ∧ j = i / 2 ^ (a + 1 - r) ∧ U (a + 1) j = l
      · have hx : upW U r i w l D (a + 1) j = -1 := by
          unfold upW
          rw [if_neg c0, if_pos ⟨c1.1, h1, c1.2⟩]
        exact Or.inl hx
      · rw [e1 (a + 1) j c0 c1]
        -- a child keeps what it has, unless it held the loser or is the game itself
        have hc : ∀ x, x < 2 → U (a + 1) j = U a (2 * j + x) → U (a + 1) j = -1 ∨ U (a + 1) j = upW U r i w l D a (2 * j + x) := by
          intro x hx he
          by_cases c2 : a = r ∧ 2 * j + x = i
          · have hu : upW U r i w l D a (2 * j + x) = w := by unfold upW; rw [if_pos c2]
            rw [hu]
            rw [c2.1, c2.2] at he
            rcases hold2 with q | q | q
            · exact Or.inl (by rw [← q, ← he, c2.1])
            · exact Or.inr (by rw [← q, ← he, c2.1])
            · exfalso
              apply c1
              refine ⟨by omega, ?_, by rw [c2.1, he, q]⟩
              rw [path_s i a r (by omega), c2.1, Nat.sub_self, Nat.pow_zero, Nat.div_one, ← c2.2]
              omega
          · by_cases c3 : r < a ∧ 2 * j + x = i / 2 ^ (a - r) ∧ U a (2 * j + x) = l
            · exfalso
              apply c1
              refine ⟨by omega, ?_, by rw [he]; exact c3.2.2⟩
              rw [path_s i a r (by omega), ← c3.2.1]
              omega
            · rw [e1 a _ c2 c3]
              exact Or.inr he
        rcases hS a j h1 h2 with q | q | q
        · exact Or.inl q
        · rcases hc 0 (by decide) q with q2 | q2
          · exact Or.inl q2
          · exact Or.inr (Or.inl q2)
        · rcases hc 1 (by decide) q with q2 | q2
          · exact Or.inl q2
          · exact Or.inr (Or.inr q2)
/-- one more round looked at -/
theorem upW_step (U : Nat → Nat → Int) (r i : Nat) (w l : Int) (k : Nat) (hk : r < k) (a j : Nat) : upW U r i w l (k + 1) a j = if a = k ∧ j = i / 2 ^ (k - r) ∧ U k j = l then -1 else upW U r i w l k a j := by
  unfold upW
  by_cases c0 : a = r ∧ j = i
  · rw [if_pos c0, if_pos c0, if_neg (by omega)]
  · rw [if_neg c0, if_neg c0]
    by_cases c1 : a = k
    · subst c1
      by_cases c2 : j = i / 2 ^ (a - r) ∧ U a j = l
      · rw [if_pos ⟨hk, by omega, c2⟩, if_pos ⟨rfl, c2⟩]
      · rw [if_neg (fun q => c2 q.2.2), if_neg (fun q => c2 q.2), if_neg (by omega)]
    · rw [if_neg (show ¬ (a = k ∧ j = i / 2 ^ (k - r) ∧ U k j = l) from fun q => c1 q.1)]
      by_cases c2 : r < a ∧ a < k ∧ j = i / 2 ^ (a - r) ∧ U a j = l
      · rw [if_pos c2, if_pos ⟨c2.1, by omega, c2.2.2⟩]
      · rw [if_neg c2, if_neg (fun q => c2 ⟨q.1, by omega, q.2.2⟩)]
/-- from where it stops on nothing more happens -/
theorem upW_stop {n D : Nat} {U : Nat → Nat → Int} (h : kU n D U) {r i s : Nat} (hr : r < D) (hi : i < 2 ^ (D - 1 - r)) (hs : s < 2) (ha : sdK n D U r i s ≠ -1) (w : Int) : ∀ f k, k + f = D → r < k → (k < D → U k (i / 2 ^ (k - r)) ≠ sdK n D U r i s) → ∀ a j, upW U r i w (sdK n D U r i s) k a j = upW U r i w (sdK n D U r i s) D a j := by
  intro f
  induction f with
  | zero => intro k hk _ _ a j; rw [show k = D by omega]
  | succ f ih =>
    intro k hk hrk hne a j
    have h1 := hne (by omega)
    have h2 := ih (k + 1) (by omega) (by omega) (fun hkD => win_stop h hr hi hs ha k hrk hkD h1) a j
    rw [← h2, upW_step U r i w _ k hrk a j, if_neg (fun q => h1 (by rw [← q.2.1]; exact q.2.2))]
