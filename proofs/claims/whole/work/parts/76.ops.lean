/-! THE LAW: all of it -/
def Cor (L : Nat) (xs : Nat → Int32) (k : Nat) (M : mM) : Prop := mOK M ∧ mKd M 0 = (13, L) ∧ mi M 0 = xs ∧ mLn M ≤ 48 + k ∧ mSl M ≤ 72635 + 6 * k
def InvG (L : Nat) (xs : Nat → Int32) (k : Nat) (M : mM) : Prop := Cor L xs k M ∧ InvW M ∧ InvT M ∧ InvB M ∧ InvP M ∧ InvK M
theorem Cor.fr {L k : Nat} {xs : Nat → Int32} {S P : List Nat} {M M' : mM} (h : Cor L xs k M) (f : Fr S P M M') (h0 : 0 ∉ S := by decide) : Cor L xs k M' := by
  obtain ⟨c1, c2, c3, c4, c5⟩ := h
  refine ⟨f.ok c1, ?_, by rw [f.gi 0 h0]; exact c3, by rw [f.2.1]; exact c4, by rw [f.2.2.1]; exact c5⟩
  rw [← c2]
  unfold mKd
  rw [f.1, f.2.1]
theorem Cor.up {L k k' : Nat} {xs : Nat → Int32} {M : mM} (h : Cor L xs k M) (hk : k ≤ k') : Cor L xs k' M := ⟨h.1, h.2.1, h.2.2.1, Nat.le_trans h.2.2.2.1 (by omega), Nat.le_trans h.2.2.2.2 (by omega)⟩
theorem new_i {M : mM} (hO : mOK M) (ex n a : Nat) (ha : a < 48 := by decide) : mi (mNew M ex n) a = mi M a := by
  have h := hO.2.2
  show va_up (mi M) (mLn M) (fun _ => 0) a = mi M a
  rw [mU_ne (by omega)]
theorem new_l {M : mM} (hO : mOK M) (ex n a : Nat) (ha : a < 48 := by decide) : ml (mNew M ex n) a = ml M a := by
  have h := hO.2.2
  show va_up (ml M) (mLn M) (fun _ => 0) a = ml M a
  rw [mU_ne (by omega)]
theorem new_r {M : mM} (hO : mOK M) (ex n a : Nat) (ha : a < 48) : mr (mNew M ex n) a = mr M a := by
  have h := hO.2.2
  show va_up (mr M) (mLn M) (fun _ => none) a = mr M a
  rw [mU_ne (by omega)]
theorem new_k {M : mM} (hO : mOK M) (ex n a : Nat) (ha : a < 48) : mKd (mNew M ex n) a = mKd M a := by
  have h := hO.2.2
  have e : mLn (mNew M ex n) = mLn M + 1 := rfl
  have e2 : mK (mNew M ex n) a = mK M a := by
    show va_up (mK M) (mLn M) (ex, n) a = mK M a
    rw [mU_ne (by omega)]
  unfold mKd
  rw [e, e2, if_pos (by omega), if_pos (by omega)]
theorem refL_lt : ∀ q ∈ refL, q.1 < 48 := by decide
theorem new_ok {M : mM} (hO : mOK M) (ex n : Nat) : mOK (mNew M ex n) := by
  refine ⟨fun k h1 h2 => ?_, fun q hq => ?_, ?_⟩
  · rw [new_k hO ex n k h2]; exact hO.1 k h1 h2
  · rw [new_r hO ex n q.1 (refL_lt q hq)]; exact hO.2.1 q hq
  · have := hO.2.2
    show 48 ≤ mLn M + 1
    omega
theorem Cor.new {L k : Nat} {xs : Nat → Int32} {M : mM} (h : Cor L xs k M) (ex : Nat) : Cor L xs (k + 1) (mNew M ex 6) := by
  obtain ⟨c1, c2, c3, c4, c5⟩ := h
  refine ⟨new_ok c1 ex 6, by rw [new_k c1 ex 6 0 (by decide)]; exact c2, by rw [new_i c1 ex 6 0]; exact c3, ?_, ?_⟩
  · show mLn M + 1 ≤ 48 + (k + 1)
    omega
  · show mSl M + 6 ≤ 72635 + 6 * (k + 1)
    omega
theorem InvG.new {L k : Nat} {xs : Nat → Int32} {M : mM} (h : InvG L xs k M) (ex : Nat) : InvG L xs (k + 1) (mNew M ex 6) := by
  obtain ⟨hc, hw, ht, hb, hp, hk⟩ := h
  have hO := hc.1
  have e := fun a (ha : a < 48) => new_i hO ex 6 a ha
  have e28 : mi (mNew M ex 6) 28 = mi M 28 := e 28 (by decide)
  refine ⟨hc.new ex, InvC.of hw (e 2 (by decide)) (e 3 (by decide)) (e 4 (by decide)) (by rw [e28]) (e 29 (by decide)) (e 30 (by decide)), InvC.of ht (e 5 (by decide)) (e 6 (by decide)) (e 7 (by decide)) (by rw [e28]) (e 31 (by decide)) (e 32 (by decide)), hb.of (e 8 (by decide)) (e 9 (by decide)) (e 10 (by decide)) (e 11 (by decide)) (e 33 (by decide)) (e 34 (by decide)) (by rw [e28]) (by rw [e28]), hp.of (e 12 (by decide)) (new_l hO ex 6 12) (e 13 (by decide)) (e 14 (by decide)) (e 15 (by decide)) (e 16 (by decide)) (e 17 (by decide)) (e 18 (by decide)) (by rw [e28]) (by rw [e28]) (e 36 (by decide)) (e 37 (by decide)) (e 38 (by decide)) (e 39 (by decide)) (e 40 (by decide)), hk.of (e 25 (by decide)) (e 26 (by decide)) (e 27 (by decide)) (by rw [e28]) (by rw [e28]) (e 45 (by decide)) (e 46 (by decide))⟩

theorem g_game {L k : Nat} {xs : Nat → Int32} {M : mM} (h : InvG L xs k M) (x y z : Int32) : ∃ (v : Int32) (M1 M2 : mM), mR 99 mBureau_game [.ref 1, .int x, .int y, .int z] M (some (.int v)) M1 ∧ mR 99 mModel_game [.ref 28, .int x, .int y, .int z] M1 (some (.int v)) M2 ∧ Cor L xs k M1 ∧ InvG L xs k M2 := by
  obtain ⟨hc, hw, ht, hb, hp, hk⟩ := h
  have hO := hc.1
  obtain ⟨v, h1, h2⟩ := op_game (d := 95) hO hb x y z
  have f := thr_fr M (iI 0)
  exact ⟨v, M, thr M (iI 0), h1, (h2.up 1), hc, hc.fr f, InvC.of hw (f.gi 2) (f.gi 3) (f.gi 4) (f.g28 3) (f.gi 29) (f.gi 30), InvC.of ht (f.gi 5) (f.gi 6) (f.gi 7) (f.g28 6) (f.gi 31) (f.gi 32), hb.of (f.gi 8) (f.gi 9) (f.gi 10) (f.gi 11) (f.gi 33) (f.gi 34) (f.g28 7) (f.g28 8), hp.of (f.gi 12) (f.gl 12) (f.gi 13) (f.gi 14) (f.gi 15) (f.gi 16) (f.gi 17) (f.gi 18) (f.g28 12) (f.g28 13) (f.gi 36) (f.gi 37) (f.gi 38) (f.gi 39) (f.gi 40), hk.of (f.gi 25) (f.gi 26) (f.gi 27) (f.g28 23) (f.g28 24) (f.gi 45) (f.gi 46)⟩
theorem g_cost {L k : Nat} {xs : Nat → Int32} {M : mM} (h : InvG L xs k M) (x : Int32) : ∃ (v : Int32) (M1 M2 : mM), mR 99 mBureau_cost [.ref 1, .int x] M (some (.int v)) M1 ∧ mR 99 mModel_cost [.ref 28, .int x] M1 (some (.int v)) M2 ∧ Cor L xs k M1 ∧ InvG L xs k M2 := by
  obtain ⟨hc, hw, ht, hb, hp, hk⟩ := h
  have hO := hc.1
  obtain ⟨v, h1, h2⟩ := op_cost (d := 97) hO hp x
  have f := thr_fr M (iI 0)
  exact ⟨v, M, thr M (iI 0), h1, (h2.up 1), hc, hc.fr f, InvC.of hw (f.gi 2) (f.gi 3) (f.gi 4) (f.g28 3) (f.gi 29) (f.gi 30), InvC.of ht (f.gi 5) (f.gi 6) (f.gi 7) (f.g28 6) (f.gi 31) (f.gi 32), hb.of (f.gi 8) (f.gi 9) (f.gi 10) (f.gi 11) (f.gi 33) (f.gi 34) (f.g28 7) (f.g28 8), hp.of (f.gi 12) (f.gl 12) (f.gi 13) (f.gi 14) (f.gi 15) (f.gi 16) (f.gi 17) (f.gi 18) (f.g28 12) (f.g28 13) (f.gi 36) (f.gi 37) (f.gi 38) (f.gi 39) (f.gi 40), hk.of (f.gi 25) (f.gi 26) (f.gi 27) (f.g28 23) (f.g28 24) (f.gi 45) (f.gi 46)⟩
theorem g_opponent {L k : Nat} {xs : Nat → Int32} {M : mM} (h : InvG L xs k M) (x y : Int32) : ∃ (v : Int32) (M1 M2 : mM), mR 99 mBureau_opponent [.ref 1, .int x, .int y] M (some (.int v)) M1 ∧ mR 99 mModel_opponent [.ref 28, .int x, .int y] M1 (some (.int v)) M2 ∧ Cor L xs k M1 ∧ InvG L xs k M2 := by
  obtain ⟨hc, hw, ht, hb, hp, hk⟩ := h
  have hO := hc.1
  obtain ⟨v, h1, h2⟩ := op_opponent (d := 97) hO hp x y
  have f := thr_fr M (iI 0)
  exact ⟨v, M, thr M (iI 0), h1, h2, hc, hc.fr f, InvC.of hw (f.gi 2) (f.gi 3) (f.gi 4) (f.g28 3) (f.gi 29) (f.gi 30), InvC.of ht (f.gi 5) (f.gi 6) (f.gi 7) (f.g28 6) (f.gi 31) (f.gi 32), hb.of (f.gi 8) (f.gi 9) (f.gi 10) (f.gi 11) (f.gi 33) (f.gi 34) (f.g28 7) (f.g28 8), hp.of (f.gi 12) (f.gl 12) (f.gi 13) (f.gi 14) (f.gi 15) (f.gi 16) (f.gi 17) (f.gi 18) (f.g28 12) (f.g28 13) (f.gi 36) (f.gi 37) (f.gi 38) (f.gi 39) (f.gi 40), hk.of (f.gi 25) (f.gi 26) (f.gi 27) (f.g28 23) (f.g28 24) (f.gi 45) (f.gi 46)⟩
theorem g_colour {L k : Nat} {xs : Nat → Int32} {M : mM} (h : InvG L xs k M) (x y : Int32) : ∃ (v : Int32) (M1 M2 : mM), mR 99 mBureau_colour [.ref 1, .int x, .int y] M (some (.int v)) M1 ∧ mR 99 mModel_colour [.ref 28, .int x, .int y] M1 (some (.int v)) M2 ∧ Cor L xs k M1 ∧ InvG L xs k M2 := by
  obtain ⟨hc, hw, ht, hb, hp, hk⟩ := h
  have hO := hc.1
  obtain ⟨v, h1, h2⟩ := op_colour (d := 97) hO hp x y
  have f := thr_fr M (iI 0)
  exact ⟨v, M, thr M (iI 0), h1, h2, hc, hc.fr f, InvC.of hw (f.gi 2) (f.gi 3) (f.gi 4) (f.g28 3) (f.gi 29) (f.gi 30), InvC.of ht (f.gi 5) (f.gi 6) (f.gi 7) (f.g28 6) (f.gi 31) (f.gi 32), hb.of (f.gi 8) (f.gi 9) (f.gi 10) (f.gi 11) (f.gi 33) (f.gi 34) (f.g28 7) (f.g28 8), hp.of (f.gi 12) (f.gl 12) (f.gi 13) (f.gi 14) (f.gi 15) (f.gi 16) (f.gi 17) (f.gi 18) (f.g28 12) (f.g28 13) (f.gi 36) (f.gi 37) (f.gi 38) (f.gi 39) (f.gi 40), hk.of (f.gi 25) (f.gi 26) (f.gi 27) (f.g28 23) (f.g28 24) (f.gi 45) (f.gi 46)⟩
theorem g_score {L k : Nat} {xs : Nat → Int32} {M : mM} (h : InvG L xs k M) (x y : Int32) : ∃ (v : Int32) (M1 M2 : mM), mR 99 mBureau_score [.ref 1, .int x, .int y] M (some (.int v)) M1 ∧ mR 99 mModel_score [.ref 28, .int x, .int y] M1 (some (.int v)) M2 ∧ Cor L xs k M1 ∧ InvG L xs k M2 := by
  obtain ⟨hc, hw, ht, hb, hp, hk⟩ := h
  have hO := hc.1
  obtain ⟨v, h1, h2⟩ := op_score (d := 94) hO hp x y
  have f := thr_fr M (iI 0)
  exact ⟨v, M, thr M (iI 0), h1, (h2.up 3), hc, hc.fr f, InvC.of hw (f.gi 2) (f.gi 3) (f.gi 4) (f.g28 3) (f.gi 29) (f.gi 30), InvC.of ht (f.gi 5) (f.gi 6) (f.gi 7) (f.g28 6) (f.gi 31) (f.gi 32), hb.of (f.gi 8) (f.gi 9) (f.gi 10) (f.gi 11) (f.gi 33) (f.gi 34) (f.g28 7) (f.g28 8), hp.of (f.gi 12) (f.gl 12) (f.gi 13) (f.gi 14) (f.gi 15) (f.gi 16) (f.gi 17) (f.gi 18) (f.g28 12) (f.g28 13) (f.gi 36) (f.gi 37) (f.gi 38) (f.gi 39) (f.gi 40), hk.of (f.gi 25) (f.gi 26) (f.gi 27) (f.g28 23) (f.g28 24) (f.gi 45) (f.gi 46)⟩
theorem g_node {L k : Nat} {xs : Nat → Int32} {M : mM} (h : InvG L xs k M) (x y z : Int32) : ∃ (v : Int32) (M1 M2 : mM), mR 99 mBureau_node [.ref 1, .int x, .int y, .int z] M (some (.int v)) M1 ∧ mR 99 mModel_node [.ref 28, .int x, .int y, .int z] M1 (some (.int v)) M2 ∧ Cor L xs k M1 ∧ InvG L xs k M2 := by
  obtain ⟨hc, hw, ht, hb, hp, hk⟩ := h
  have hO := hc.1
  obtain ⟨v, h1, h2⟩ := op_node (d := 96) hO hk x y z
  have f := thr_fr M (iI 0)
  exact ⟨v, M, thr M (iI 0), h1, h2, hc, hc.fr f, InvC.of hw (f.gi 2) (f.gi 3) (f.gi 4) (f.g28 3) (f.gi 29) (f.gi 30), InvC.of ht (f.gi 5) (f.gi 6) (f.gi 7) (f.g28 6) (f.gi 31) (f.gi 32), hb.of (f.gi 8) (f.gi 9) (f.gi 10) (f.gi 11) (f.gi 33) (f.gi 34) (f.g28 7) (f.g28 8), hp.of (f.gi 12) (f.gl 12) (f.gi 13) (f.gi 14) (f.gi 15) (f.gi 16) (f.gi 17) (f.gi 18) (f.g28 12) (f.g28 13) (f.gi 36) (f.gi 37) (f.gi 38) (f.gi 39) (f.gi 40), hk.of (f.gi 25) (f.gi 26) (f.gi 27) (f.g28 23) (f.g28 24) (f.gi 45) (f.gi 46)⟩
theorem g_wish {L k : Nat} {xs : Nat → Int32} {M : mM} (h : InvG L xs k M) (x y : Int32) : ∃ (v : Int32) (M1 M2 : mM), mR 99 mBureau_wish [.ref 1, .int x, .int y] M (some (.int v)) M1 ∧ mR 99 mModel_wish [.ref 28, .int x, .int y] M1 (some (.int v)) M2 ∧ Cor L xs k M1 ∧ InvG L xs k M2 := by
  obtain ⟨hc, hw, ht, hb, hp, hk⟩ := h
  have hO := hc.1
  obtain ⟨b, M1, M2, h1, h2, h3, f, f1⟩ := op_wish (d := 97) hO hw x y
  exact ⟨_, M1, M2, h1, (h2.up 1), hc.fr f1, hc.fr f, h3, InvC.of ht (f.gi 5) (f.gi 6) (f.gi 7) (f.g28 6) (f.gi 31) (f.gi 32), hb.of (f.gi 8) (f.gi 9) (f.gi 10) (f.gi 11) (f.gi 33) (f.gi 34) (f.g28 7) (f.g28 8), hp.of (f.gi 12) (f.gl 12) (f.gi 13) (f.gi 14) (f.gi 15) (f.gi 16) (f.gi 17) (f.gi 18) (f.g28 12) (f.g28 13) (f.gi 36) (f.gi 37) (f.gi 38) (f.gi 39) (f.gi 40), hk.of (f.gi 25) (f.gi 26) (f.gi 27) (f.g28 23) (f.g28 24) (f.gi 45) (f.gi 46)⟩
theorem g_twins {L k : Nat} {xs : Nat → Int32} {M : mM} (h : InvG L xs k M) (x y : Int32) : ∃ (v : Int32) (M1 M2 : mM), mR 99 mBureau_twins [.ref 1, .int x, .int y] M (some (.int v)) M1 ∧ mR 99 mModel_twins [.ref 28, .int x, .int y] M1 (some (.int v)) M2 ∧ Cor L xs k M1 ∧ InvG L xs k M2 := by
  obtain ⟨hc, hw, ht, hb, hp, hk⟩ := h
  have hO := hc.1
  obtain ⟨b, M1, M2, h1, h2, h3, f, f1⟩ := op_twins (d := 97) hO ht x y
  exact ⟨_, M1, M2, h1, (h2.up 1), hc.fr f1, hc.fr f, InvC.of hw (f.gi 2) (f.gi 3) (f.gi 4) (f.g28 3) (f.gi 29) (f.gi 30), h3, hb.of (f.gi 8) (f.gi 9) (f.gi 10) (f.gi 11) (f.gi 33) (f.gi 34) (f.g28 7) (f.g28 8), hp.of (f.gi 12) (f.gl 12) (f.gi 13) (f.gi 14) (f.gi 15) (f.gi 16) (f.gi 17) (f.gi 18) (f.g28 12) (f.g28 13) (f.gi 36) (f.gi 37) (f.gi 38) (f.gi 39) (f.gi 40), hk.of (f.gi 25) (f.gi 26) (f.gi 27) (f.g28 23) (f.g28 24) (f.gi 45) (f.gi 46)⟩
theorem g_drop {L k : Nat} {xs : Nat → Int32} {M : mM} (h : InvG L xs k M) (x : Int32) : ∃ (v : Int32) (M1 M2 : mM), mR 99 mBureau_drop [.ref 1, .int x] M (some (.int v)) M1 ∧ mR 99 mModel_drop [.ref 28, .int x] M1 (some (.int v)) M2 ∧ Cor L xs k M1 ∧ InvG L xs k M2 := by
  obtain ⟨hc, hw, ht, hb, hp, hk⟩ := h
  have hO := hc.1
  obtain ⟨b, M1, M2, h1, h2, h3, h4, f, f1⟩ := op_drop (d := 98) hO hw ht x
  exact ⟨_, M1, M2, h1, (h2.up 1), hc.fr f1, hc.fr f, h3, h4, hb.of (f.gi 8) (f.gi 9) (f.gi 10) (f.gi 11) (f.gi 33) (f.gi 34) (f.g28 7) (f.g28 8), hp.of (f.gi 12) (f.gl 12) (f.gi 13) (f.gi 14) (f.gi 15) (f.gi 16) (f.gi 17) (f.gi 18) (f.g28 12) (f.g28 13) (f.gi 36) (f.gi 37) (f.gi 38) (f.gi 39) (f.gi 40), hk.of (f.gi 25) (f.gi 26) (f.gi 27) (f.g28 23) (f.g28 24) (f.gi 45) (f.gi 46)⟩
theorem g_players {L k : Nat} {xs : Nat → Int32} {M : mM} (h : InvG L xs k M) (x : Int32) : ∃ (v : Int32) (M1 M2 : mM), mR 99 mBureau_players [.ref 1, .int x] M (some (.int v)) M1 ∧ mR 99 mModel_players [.ref 28, .int x] M1 (some (.int v)) M2 ∧ Cor L xs k M1 ∧ InvG L xs k M2 := by
  obtain ⟨hc, hw, ht, hb, hp, hk⟩ := h
  have hO := hc.1
  obtain ⟨v, M1, M2, h1, h2, h3, f, f1⟩ := op_players (d := 96) hO hp x
  exact ⟨_, M1, M2, h1, (h2.up 2), hc.fr f1, hc.fr f, InvC.of hw (f.gi 2) (f.gi 3) (f.gi 4) (f.g28 3) (f.gi 29) (f.gi 30), InvC.of ht (f.gi 5) (f.gi 6) (f.gi 7) (f.g28 6) (f.gi 31) (f.gi 32), hb.of (f.gi 8) (f.gi 9) (f.gi 10) (f.gi 11) (f.gi 33) (f.gi 34) (f.g28 7) (f.g28 8), h3, hk.of (f.gi 25) (f.gi 26) (f.gi 27) (f.g28 23) (f.g28 24) (f.gi 45) (f.gi 46)⟩
theorem g_out {L k : Nat} {xs : Nat → Int32} {M : mM} (h : InvG L xs k M) (x : Int32) : ∃ (v : Int32) (M1 M2 : mM), mR 99 mBureau_out [.ref 1, .int x] M (some (.int v)) M1 ∧ mR 99 mModel_out [.ref 28, .int x] M1 (some (.int v)) M2 ∧ Cor L xs k M1 ∧ InvG L xs k M2 := by
  obtain ⟨hc, hw, ht, hb, hp, hk⟩ := h
  have hO := hc.1
  obtain ⟨v, M1, M2, h1, h2, h3, f, f1⟩ := op_out (d := 97) hO hp x
  exact ⟨_, M1, M2, h1, (h2.up 1), hc.fr f1, hc.fr f, InvC.of hw (f.gi 2) (f.gi 3) (f.gi 4) (f.g28 3) (f.gi 29) (f.gi 30), InvC.of ht (f.gi 5) (f.gi 6) (f.gi 7) (f.g28 6) (f.gi 31) (f.gi 32), hb.of (f.gi 8) (f.gi 9) (f.gi 10) (f.gi 11) (f.gi 33) (f.gi 34) (f.g28 7) (f.g28 8), h3, hk.of (f.gi 25) (f.gi 26) (f.gi 27) (f.g28 23) (f.g28 24) (f.gi 45) (f.gi 46)⟩
theorem g_standing {L k : Nat} {xs : Nat → Int32} {M : mM} (h : InvG L xs k M) (x : Int32) : ∃ (v : Int32) (M1 M2 : mM), mR 99 mBureau_standing [.ref 1, .int x] M (some (.int v)) M1 ∧ mR 99 mModel_standing [.ref 28, .int x] M1 (some (.int v)) M2 ∧ Cor L xs k M1 ∧ InvG L xs k M2 := by
  obtain ⟨hc, hw, ht, hb, hp, hk⟩ := h
  have hO := hc.1
  obtain ⟨v, M1, M2, h1, h2, f, f1⟩ := op_standing (d := 93) hO hp x
  exact ⟨_, M1, M2, h1, (h2.up 3), hc.fr f1, hc.fr f, InvC.of hw (f.gi 2) (f.gi 3) (f.gi 4) (f.g28 3) (f.gi 29) (f.gi 30), InvC.of ht (f.gi 5) (f.gi 6) (f.gi 7) (f.g28 6) (f.gi 31) (f.gi 32), hb.of (f.gi 8) (f.gi 9) (f.gi 10) (f.gi 11) (f.gi 33) (f.gi 34) (f.g28 7) (f.g28 8), hp.of (f.gi 12) (f.gl 12) (f.gi 13) (f.gi 14) (f.gi 15) (f.gi 16) (f.gi 17) (f.gi 18) (f.g28 12) (f.g28 13) (f.gi 36) (f.gi 37) (f.gi 38) (f.gi 39) (f.gi 40), hk.of (f.gi 25) (f.gi 26) (f.gi 27) (f.g28 23) (f.g28 24) (f.gi 45) (f.gi 46)⟩
theorem g_measure {L k : Nat} {xs : Nat → Int32} {M : mM} (h : InvG L xs k M) (x : Int32) : ∃ (v : Int32) (M1 M2 : mM), mR 99 mBureau_measure [.ref 1, .int x] M (some (.int v)) M1 ∧ mR 99 mModel_measure [.ref 28, .int x] M1 (some (.int v)) M2 ∧ Cor L xs k M1 ∧ InvG L xs k M2 := by
  obtain ⟨hc, hw, ht, hb, hp, hk⟩ := h
  have hO := hc.1
  obtain ⟨v, M2, h1, h2, f⟩ := op_measure (d := 86) hO hb ht x
  exact ⟨v, M, M2, h1, (h2.up 8), hc, hc.fr f, InvC.of hw (f.gi 2) (f.gi 3) (f.gi 4) (f.g28 3) (f.gi 29) (f.gi 30), InvC.of ht (f.gi 5) (f.gi 6) (f.gi 7) (f.g28 6) (f.gi 31) (f.gi 32), hb.of (f.gi 8) (f.gi 9) (f.gi 10) (f.gi 11) (f.gi 33) (f.gi 34) (f.g28 7) (f.g28 8), hp.of (f.gi 12) (f.gl 12) (f.gi 13) (f.gi 14) (f.gi 15) (f.gi 16) (f.gi 17) (f.gi 18) (f.g28 12) (f.g28 13) (f.gi 36) (f.gi 37) (f.gi 38) (f.gi 39) (f.gi 40), hk.of (f.gi 25) (f.gi 26) (f.gi 27) (f.g28 23) (f.g28 24) (f.gi 45) (f.gi 46)⟩
theorem g_win {L k : Nat} {xs : Nat → Int32} {M : mM} (h : InvG L xs k M) (x y : Int32) (sc : Bool) : ∃ (v : Int32) (M1 M2 : mM), mR 99 mBureau_win [.ref 1, .int x, .int y, .int (bI sc)] M (some (.int v)) M1 ∧ mR 99 mModel_win [.ref 28, .int x, .int y, .int (bI sc)] M1 (some (.int v)) M2 ∧ Cor L xs k M1 ∧ InvG L xs k M2 := by
  obtain ⟨hc, hw, ht, hb, hp, hk⟩ := h
  have hO := hc.1
  obtain ⟨v, M1, M2, h1, h2, h3, f, f1⟩ := op_win (d := 95) hO hk x y sc
  exact ⟨v, M1, M2, h1, (h2.up 1), hc.fr f1, hc.fr f, InvC.of hw (f.gi 2) (f.gi 3) (f.gi 4) (f.g28 3) (f.gi 29) (f.gi 30), InvC.of ht (f.gi 5) (f.gi 6) (f.gi 7) (f.g28 6) (f.gi 31) (f.gi 32), hb.of (f.gi 8) (f.gi 9) (f.gi 10) (f.gi 11) (f.gi 33) (f.gi 34) (f.g28 7) (f.g28 8), hp.of (f.gi 12) (f.gl 12) (f.gi 13) (f.gi 14) (f.gi 15) (f.gi 16) (f.gi 17) (f.gi 18) (f.g28 12) (f.g28 13) (f.gi 36) (f.gi 37) (f.gi 38) (f.gi 39) (f.gi 40), h3⟩
theorem mP_saX {d mt pc n a : Nat} {ls st : List Value} {M : mM} {Q : (Option Value ⊕ Nat) → mM → Prop} {ax : Nat × Nat × Int} {x : Int32} {z : Int} {j : Nat} {v : Int32} (hr : mIns mt pc = some (.iaload, 1, ax)) (hk : mKd M a = (13, n)) (hx : x.toInt = z) (hz : z = j) (hj : j < n) (hn : n < 2 ^ 31) (hv : mi M a j = v) (k : mP d mt (pc + 1) ls (.int v :: st) M Q) : mP d mt pc ls (.int x :: .ref a :: st) M Q := by
  rw [to_n hx hz]
  subst hv
  exact mP_sald hr hk hj hn k
/-- a call that throws and is caught -/
theorem mP_VT {d mt pc ix y b n ex h : Nat} {z : Int} {ls st rest as : List Value} {M : mM} {Q : (Option Value ⊕ Nat) → mM → Prop} (hr : mIns mt pc = some (.invokevirtual ix, 3, 0, y, z)) (ht : mTake (mPar y) [] st = some (as, .ref b :: rest)) (hk : mKd M b = (mOwn y, n)) (hcat : (decide (mCat rest ≤ 8) && decide ((mArgs as).length + 1 ≤ mMax y)) = true) (hR : mT d y (.ref b :: as) M ex) (hm : mCatch mt pc ex = some h) (k : mP (d + 1) mt h ls [.ref (mLn M)] (mNew M ex 6) Q) : mP (d + 1) mt pc ls st M Q := by
  refine mP_call (y := y) (as := .ref b :: as) (rest := rest) hr (by simp only [Bool.and_eq_true, decide_eq_true_eq] at hcat; simp only [mStep, mInv, ht, hk]; simp [hcat]) (mP_mono hR ?_)
  rintro o M' ⟨rfl, rfl⟩
  refine ⟨h, hm, ?_⟩
  exact k
theorem sp_thrown {d : Nat} {M : mM} {v : Int32} (hO : mOK M) (hv : mi M 28 0 = v) : mR d mModel_thrown [.ref 28] M (some (.int v)) M := by
  have k28 : mKd M 28 = (6, 27) := hO.k 28
  show mP d mModel_thrown 0 [.ref 28] [] M _
  (repeat (first | refine mP_go rfl rfl ?_ | ((show mP _ _ _ _ (Value.ref _ :: _) _ _); first | refine mP_getIv rfl (by assumption) (by assumption) ?_ | refine mP_getI rfl (by assumption) ?_ | refine mP_getR rfl (by assumption) (by assumption) ?_ | refine mP_getLv rfl (by assumption) (by assumption) ?_ | refine mP_getL rfl (by assumption) ?_) | ((show mP _ _ _ _ (_ :: Value.ref _ :: _) _ _); first | refine mP_putI rfl (by assumption) ?_ | refine mP_putL rfl (by assumption) ?_)); (try dsimp only))
  exact mP_ret rfl rfl ⟨rfl, rfl⟩
theorem Fr47 (M : mM) (f : Nat → Int64) : Fr [47] [] M (wL M 47 f) := Fr_wL M 47 f
/-- the table through the law's own call -/
theorem g_table {L k : Nat} {xs : Nat → Int32} {M : mM} (h : InvG L xs k M) (x y : Int32) : ∃ (c u : Int32) (M1 M2 : mM), mR 99 mLaw_table [.ref 1, .int x, .int y, .ref 47] M (some (.int c)) M1 ∧ mR 99 mModel_table [.ref 28, .int x, .int y] M1 (some (.int u)) M2 ∧ mi M2 28 0 = c ∧ (c = 0 → ml M2 47 0 = u.toInt64) ∧ Cor L xs (k + 1) M1 ∧ InvG L xs (k + 1) M2 := by
  have h' := h
  obtain ⟨hc, hw, ht, hb, hp, hk⟩ := h
  have hO := hc.1
  have k1 : mKd M 1 = (5, 5) := hO.k 1
  have k47 : mKd M 47 = (11, 1) := hO.k 47
  have hx : x.toInt = x.toInt := rfl
  have hy : y.toInt = y.toInt := rfl
  -- refused
  have no : ∀ (ex : Nat) (c : Int32), mT 98 mBureau_table [.ref 1, .int x, .int y] M ex → mCatch mLaw_table 5 ex ≠ none → (∀ hd, mCatch mLaw_table 5 ex = some hd → mP 99 mLaw_table hd [.ref 1, .int x, .int y, .ref 47, .retAddr 0] [.ref (mLn M)] (mNew M ex 6) (fun o M' => o = .inl (some (.int c)) ∧ M' = mNew M ex 6)) → mR 99 mModel_table [.ref 28, .int x, .int y] (mNew M ex 6) (some (.int (iI 0))) (thr (mNew M ex 6) c) → c ≠ 0 → ∃ (c u : Int32) (M1 M2 : mM), mR 99 mLaw_table [.ref 1, .int x, .int y, .ref 47] M (some (.int c)) M1 ∧ mR 99 mModel_table [.ref 28, .int x, .int y] M1 (some (.int u)) M2 ∧ mi M2 28 0 = c ∧ (c = 0 → ml M2 47 0 = u.toInt64) ∧ Cor L xs (k + 1) M1 ∧ InvG L xs (k + 1) M2 := by
    intro ex c hT hcn hh hm hc0
    obtain ⟨hd, hhd⟩ := Option.ne_none_iff_exists'.mp hcn
    have hN := h'.new ex
    obtain ⟨hc, hw, ht, hb, hp, hk⟩ := hN
    have f := thr_fr (mNew M ex 6) c
    refine ⟨c, iI 0, mNew M ex 6, thr (mNew M ex 6) c, ?_, hm, rfl, fun q => absurd q hc0, hc, hc.fr f, InvC.of hw (f.gi 2) (f.gi 3) (f.gi 4) (f.g28 3) (f.gi 29) (f.gi 30), InvC.of ht (f.gi 5) (f.gi 6) (f.gi 7) (f.g28 6) (f.gi 31) (f.gi 32), hb.of (f.gi 8) (f.gi 9) (f.gi 10) (f.gi 11) (f.gi 33) (f.gi 34) (f.g28 7) (f.g28 8), hp.of (f.gi 12) (f.gl 12) (f.gi 13) (f.gi 14) (f.gi 15) (f.gi 16) (f.gi 17) (f.gi 18) (f.g28 12) (f.g28 13) (f.gi 36) (f.gi 37) (f.gi 38) (f.gi 39) (f.gi 40), hk.of (f.gi 25) (f.gi 26) (f.gi 27) (f.g28 23) (f.g28 24) (f.gi 45) (f.gi 46)⟩
    show mP (98 + 1) mLaw_table 0 [.ref 1, .int x, .int y, .ref 47, .retAddr 0] [] M _
    (repeat (first | refine mP_go rfl rfl ?_ | ((show mP _ _ _ _ (Value.ref _ :: _) _ _); first | refine mP_getIv rfl (by assumption) (by assumption) ?_ | refine mP_getI rfl (by assumption) ?_ | refine mP_getR rfl (by assumption) (by assumption) ?_ | refine mP_getLv rfl (by assumption) (by assumption) ?_ | refine mP_getL rfl (by assumption) ?_) | ((show mP _ _ _ _ (_ :: Value.ref _ :: _) _ _); first | refine mP_putI rfl (by assumption) ?_ | refine mP_putL rfl (by assumption) ?_)); (try dsimp only))
    exact mP_VT rfl rfl k1 rfl hT hhd (hh hd hhd)
  by_cases c1 : 4 ≤ x.toInt ∧ x.toInt ≤ 16 ∧ x.toInt % 2 = 0 ∧ 1 ≤ y.toInt ∧ y.toInt ≤ 2
  · obtain ⟨N, hN⟩ := Int.eq_ofNat_of_zero_le (show 0 ≤ x.toInt by omega)
    obtain ⟨hv, hhv⟩ := Int.eq_ofNat_of_zero_le (show 0 ≤ y.toInt by omega)
    have ex : x = nI N := to_n hx hN
    have ey : y = nI hv := to_n hy hhv
    have hNk : okN N := ⟨by omega, by omega, by omega⟩
    have hv1 : 1 ≤ hv := by omega
    have hv2 : hv ≤ 2 := by omega
    obtain ⟨n, t, F, G, hC, hR, hM⟩ := id hw
    by_cases c2 : 2 ^ N ≤ t
    · subst ex ey
      refine no 8 (iI 2) (sp_table2 (d := 92) hO hNk hv1 hv2 hC hR c2) (by decide) (fun hd hhd => ?_) ?_ (by decide)
      · have : hd = 17 := by
          have e : mCatch mLaw_table 5 8 = some 17 := by decide
          rw [e] at hhd; injection hhd with hhd; omega
        subst this
        (repeat (first | refine mP_go rfl rfl ?_ | ((show mP _ _ _ _ (Value.ref _ :: _) _ _); first | refine mP_getIv rfl (by assumption) (by assumption) ?_ | refine mP_getI rfl (by assumption) ?_ | refine mP_getR rfl (by assumption) (by assumption) ?_ | refine mP_getLv rfl (by assumption) (by assumption) ?_ | refine mP_getL rfl (by assumption) ?_) | ((show mP _ _ _ _ (_ :: Value.ref _ :: _) _ _); first | refine mP_putI rfl (by assumption) ?_ | refine mP_putL rfl (by assumption) ?_)); (try dsimp only))
        exact mP_ret rfl rfl ⟨rfl, rfl⟩
      · have e := fun a (ha : a < 48) => new_i hO 8 6 a ha
        have e28 : mi (mNew M 8 6) 28 = mi M 28 := e 28 (by decide)
        exact sp_mtable2 (d := 98) (new_ok hO 8 6) hNk hv1 hv2 hC (by rw [e28, e 29 (by decide), e 30 (by decide)]; exact hM) c2
    · subst ex ey
      obtain ⟨M1, hB, f1, hrest⟩ := op_table_ok (d := 94) hO hNk hv1 hv2 hC hR hM (by omega)
      have f2 := Fr47 M1 (va_up (ml M1 47) 0 (nI ((N - 1) * hv)).toInt64)
      obtain ⟨M2, hE, f3, g0, hb2⟩ := hrest _ f2
      have f := (f1.trans f2).trans f3
      refine ⟨iI 0, _, wL M1 47 (va_up (ml M1 47) 0 (nI ((N - 1) * hv)).toInt64), M2, ?_, hE.up 2, g0, fun _ => ?_, (hc.fr (f1.trans f2)).up (by omega), (hc.fr f).up (by omega), InvC.of hw (f.gi 2) (f.gi 3) (f.gi 4) (f.g28 3) (f.gi 29) (f.gi 30), InvC.of ht (f.gi 5) (f.gi 6) (f.gi 7) (f.g28 6) (f.gi 31) (f.gi 32), hb2, hp.of (f.gi 12) (f.gl 12) (f.gi 13) (f.gi 14) (f.gi 15) (f.gi 16) (f.gi 17) (f.gi 18) (f.g28 12) (f.g28 13) (f.gi 36) (f.gi 37) (f.gi 38) (f.gi 39) (f.gi 40), hk.of (f.gi 25) (f.gi 26) (f.gi 27) (f.g28 23) (f.g28 24) (f.gi 45) (f.gi 46)⟩
      · have k471 : mKd M1 47 = (11, 1) := (f1.ok hO).k 47
        show mP (98 + 1) mLaw_table 0 [.ref 1, .int (nI N), .int (nI hv), .ref 47, .retAddr 0] [] M _
        (repeat (first | refine mP_go rfl rfl ?_ | ((show mP _ _ _ _ (Value.ref _ :: _) _ _); first | refine mP_getIv rfl (by assumption) (by assumption) ?_ | refine mP_getI rfl (by assumption) ?_ | refine mP_getR rfl (by assumption) (by assumption) ?_ | refine mP_getLv rfl (by assumption) (by assumption) ?_ | refine mP_getL rfl (by assumption) ?_) | ((show mP _ _ _ _ (_ :: Value.ref _ :: _) _ _); first | refine mP_putI rfl (by assumption) ?_ | refine mP_putL rfl (by assumption) ?_)); (try dsimp only))
        refine mP_V rfl rfl (by assumption) rfl hB ?_
        (repeat (first | refine mP_go rfl rfl ?_ | ((show mP _ _ _ _ (Value.ref _ :: _) _ _); first | refine mP_getIv rfl (by assumption) (by assumption) ?_ | refine mP_getI rfl (by assumption) ?_ | refine mP_getR rfl (by assumption) (by assumption) ?_ | refine mP_getLv rfl (by assumption) (by assumption) ?_ | refine mP_getL rfl (by assumption) ?_) | ((show mP _ _ _ _ (_ :: Value.ref _ :: _) _ _); first | refine mP_putI rfl (by assumption) ?_ | refine mP_putL rfl (by assumption) ?_)); (try dsimp only))
        refine mP_laS (j := 0) rfl k471 (by ((repeat' (first | with_reducible apply tt_rem | with_reducible apply tt_div | with_reducible apply tt_and1 | with_reducible apply tt_add | with_reducible apply tt_sub | with_reducible apply tt_mul | with_reducible apply tt_neg | with_reducible refine nI_toInt ?_ | with_reducible refine iI_toInt ?_ ?_ | with_reducible exact tz0 | with_reducible assumption | omega)); (fail_if_success (focus skip)))) (by omega) (by omega) (by decide) ?_
        (repeat (first | refine mP_go rfl rfl ?_ | ((show mP _ _ _ _ (Value.ref _ :: _) _ _); first | refine mP_getIv rfl (by assumption) (by assumption) ?_ | refine mP_getI rfl (by assumption) ?_ | refine mP_getR rfl (by assumption) (by assumption) ?_ | refine mP_getLv rfl (by assumption) (by assumption) ?_ | refine mP_getL rfl (by assumption) ?_) | ((show mP _ _ _ _ (_ :: Value.ref _ :: _) _ _); first | refine mP_putI rfl (by assumption) ?_ | refine mP_putL rfl (by assumption) ?_)); (try dsimp only))
        exact mP_ret rfl rfl ⟨rfl, rfl⟩
      · rw [f3.gl 47]
        rfl
  · have e := sp_mtable1 (d := 98) (new_ok hO 7 6) c1
    refine no 7 (iI 1) (sp_table1 (d := 92) c1) (by decide) (fun hd hhd => ?_) e (by decide)
    have : hd = 13 := by
      have e : mCatch mLaw_table 5 7 = some 13 := by decide
      rw [e] at hhd; injection hhd with hhd; omega
    subst this
    (repeat (first | refine mP_go rfl rfl ?_ | ((show mP _ _ _ _ (Value.ref _ :: _) _ _); first | refine mP_getIv rfl (by assumption) (by assumption) ?_ | refine mP_getI rfl (by assumption) ?_ | refine mP_getR rfl (by assumption) (by assumption) ?_ | refine mP_getLv rfl (by assumption) (by assumption) ?_ | refine mP_getL rfl (by assumption) ?_) | ((show mP _ _ _ _ (_ :: Value.ref _ :: _) _ _); first | refine mP_putI rfl (by assumption) ?_ | refine mP_putL rfl (by assumption) ?_)); (try dsimp only))
    exact mP_ret rfl rfl ⟨rfl, rfl⟩
theorem g_tree {L k : Nat} {xs : Nat → Int32} {M : mM} (h : InvG L xs k M) (x : Int32) : ∃ (c u : Int32) (M1 M2 : mM), mR 99 mLaw_tree [.ref 1, .int x, .ref 47] M (some (.int c)) M1 ∧ mR 99 mModel_tree [.ref 28, .int x] M1 (some (.int u)) M2 ∧ mi M2 28 0 = c ∧ (c = 0 → ml M2 47 0 = u.toInt64) ∧ Cor L xs (k + 1) M1 ∧ InvG L xs (k + 1) M2 := by
  have h' := h
  obtain ⟨hc, hw, ht, hb, hp, hk⟩ := h
  have hO := hc.1
  have k1 : mKd M 1 = (5, 5) := hO.k 1
  have k47 : mKd M 47 = (11, 1) := hO.k 47
  have hx : x.toInt = x.toInt := rfl
  by_cases c1 : x.toInt < 2 ∨ 64 < x.toInt
  · have hN := h'.new 7
    obtain ⟨hc, hw, ht, hb, hp, hk⟩ := hN
    have f := thr_fr (mNew M 7 6) (iI 1)
    refine ⟨iI 1, iI 0, mNew M 7 6, thr (mNew M 7 6) (iI 1), ?_, sp_mtree_no (d := 98) (new_ok hO 7 6) c1, rfl, fun q => absurd q (by decide), hc, hc.fr f, InvC.of hw (f.gi 2) (f.gi 3) (f.gi 4) (f.g28 3) (f.gi 29) (f.gi 30), InvC.of ht (f.gi 5) (f.gi 6) (f.gi 7) (f.g28 6) (f.gi 31) (f.gi 32), hb.of (f.gi 8) (f.gi 9) (f.gi 10) (f.gi 11) (f.gi 33) (f.gi 34) (f.g28 7) (f.g28 8), hp.of (f.gi 12) (f.gl 12) (f.gi 13) (f.gi 14) (f.gi 15) (f.gi 16) (f.gi 17) (f.gi 18) (f.g28 12) (f.g28 13) (f.gi 36) (f.gi 37) (f.gi 38) (f.gi 39) (f.gi 40), hk.of (f.gi 25) (f.gi 26) (f.gi 27) (f.g28 23) (f.g28 24) (f.gi 45) (f.gi 46)⟩
    show mP (98 + 1) mLaw_tree 0 [.ref 1, .int x, .ref 47, .retAddr 0] [] M _
    (repeat (first | refine mP_go rfl rfl ?_ | ((show mP _ _ _ _ (Value.ref _ :: _) _ _); first | refine mP_getIv rfl (by assumption) (by assumption) ?_ | refine mP_getI rfl (by assumption) ?_ | refine mP_getR rfl (by assumption) (by assumption) ?_ | refine mP_getLv rfl (by assumption) (by assumption) ?_ | refine mP_getL rfl (by assumption) ?_) | ((show mP _ _ _ _ (_ :: Value.ref _ :: _) _ _); first | refine mP_putI rfl (by assumption) ?_ | refine mP_putL rfl (by assumption) ?_)); (try dsimp only))
    refine mP_VT rfl rfl k1 rfl (sp_tree_no (d := 92) c1) (h := 12) (by decide) ?_
    (repeat (first | refine mP_go rfl rfl ?_ | ((show mP _ _ _ _ (Value.ref _ :: _) _ _); first | refine mP_getIv rfl (by assumption) (by assumption) ?_ | refine mP_getI rfl (by assumption) ?_ | refine mP_getR rfl (by assumption) (by assumption) ?_ | refine mP_getLv rfl (by assumption) (by assumption) ?_ | refine mP_getL rfl (by assumption) ?_) | ((show mP _ _ _ _ (_ :: Value.ref _ :: _) _ _); first | refine mP_putI rfl (by assumption) ?_ | refine mP_putL rfl (by assumption) ?_)); (try dsimp only))
    exact mP_ret rfl rfl ⟨rfl, rfl⟩
  · obtain ⟨n, hn⟩ := Int.eq_ofNat_of_zero_le (show 0 ≤ x.toInt by omega)
    have ex : x = nI n := to_n hx hn
    subst ex
    obtain ⟨D, M1, hB, f1, hD, hrest⟩ := op_tree_ok (d := 94) hO (show 2 ≤ n by omega) (show n ≤ 64 by omega)
    have f2 := Fr47 M1 (va_up (ml M1 47) 0 (nI D).toInt64)
    obtain ⟨M2, hE, f3, g0, hk2⟩ := hrest _ f2
    have f := (f1.trans f2).trans f3
    refine ⟨iI 0, _, wL M1 47 (va_up (ml M1 47) 0 (nI D).toInt64), M2, ?_, hE.up 4, g0, fun _ => ?_, (hc.fr (f1.trans f2)).up (by omega), (hc.fr f).up (by omega), InvC.of hw (f.gi 2) (f.gi 3) (f.gi 4) (f.g28 3) (f.gi 29) (f.gi 30), InvC.of ht (f.gi 5) (f.gi 6) (f.gi 7) (f.g28 6) (f.gi 31) (f.gi 32), hb.of (f.gi 8) (f.gi 9) (f.gi 10) (f.gi 11) (f.gi 33) (f.gi 34) (f.g28 7) (f.g28 8), hp.of (f.gi 12) (f.gl 12) (f.gi 13) (f.gi 14) (f.gi 15) (f.gi 16) (f.gi 17) (f.gi 18) (f.g28 12) (f.g28 13) (f.gi 36) (f.gi 37) (f.gi 38) (f.gi 39) (f.gi 40), hk2⟩
    · have k471 : mKd M1 47 = (11, 1) := (f1.ok hO).k 47
      show mP (98 + 1) mLaw_tree 0 [.ref 1, .int (nI n), .ref 47, .retAddr 0] [] M _
      (repeat (first | refine mP_go rfl rfl ?_ | ((show mP _ _ _ _ (Value.ref _ :: _) _ _); first | refine mP_getIv rfl (by assumption) (by assumption) ?_ | refine mP_getI rfl (by assumption) ?_ | refine mP_getR rfl (by assumption) (by assumption) ?_ | refine mP_getLv rfl (by assumption) (by assumption) ?_ | refine mP_getL rfl (by assumption) ?_) | ((show mP _ _ _ _ (_ :: Value.ref _ :: _) _ _); first | refine mP_putI rfl (by assumption) ?_ | refine mP_putL rfl (by assumption) ?_)); (try dsimp only))
      refine mP_V rfl rfl (by assumption) rfl hB ?_
      (repeat (first | refine mP_go rfl rfl ?_ | ((show mP _ _ _ _ (Value.ref _ :: _) _ _); first | refine mP_getIv rfl (by assumption) (by assumption) ?_ | refine mP_getI rfl (by assumption) ?_ | refine mP_getR rfl (by assumption) (by assumption) ?_ | refine mP_getLv rfl (by assumption) (by assumption) ?_ | refine mP_getL rfl (by assumption) ?_) | ((show mP _ _ _ _ (_ :: Value.ref _ :: _) _ _); first | refine mP_putI rfl (by assumption) ?_ | refine mP_putL rfl (by assumption) ?_)); (try dsimp only))
      refine mP_laS (j := 0) rfl k471 (by ((repeat' (first | with_reducible apply tt_rem | with_reducible apply tt_div | with_reducible apply tt_and1 | with_reducible apply tt_add | with_reducible apply tt_sub | with_reducible apply tt_mul | with_reducible apply tt_neg | with_reducible refine nI_toInt ?_ | with_reducible refine iI_toInt ?_ ?_ | with_reducible exact tz0 | with_reducible assumption | omega)); (fail_if_success (focus skip)))) (by omega) (by omega) (by decide) ?_
      (repeat (first | refine mP_go rfl rfl ?_ | ((show mP _ _ _ _ (Value.ref _ :: _) _ _); first | refine mP_getIv rfl (by assumption) (by assumption) ?_ | refine mP_getI rfl (by assumption) ?_ | refine mP_getR rfl (by assumption) (by assumption) ?_ | refine mP_getLv rfl (by assumption) (by assumption) ?_ | refine mP_getL rfl (by assumption) ?_) | ((show mP _ _ _ _ (_ :: Value.ref _ :: _) _ _); first | refine mP_putI rfl (by assumption) ?_ | refine mP_putL rfl (by assumption) ?_)); (try dsimp only))
      exact mP_ret rfl rfl ⟨rfl, rfl⟩
    · rw [f3.gl 47]
      rfl
theorem g_book {L k : Nat} {xs : Nat → Int32} {M : mM} (h : InvG L xs k M) (x y z : Int32) : ∃ (c : Int32) (M1 M2 : mM), mR 99 mLaw_book [.ref 1, .int x, .int y, .int z] M (some (.int c)) M1 ∧ mR 99 mModel_book [.ref 28, .int x, .int y, .int z] M1 none M2 ∧ mi M2 28 0 = c ∧ Cor L xs (k + 1) M1 ∧ InvG L xs (k + 1) M2 := by
  have h' := h
  obtain ⟨hc, hw, ht, hb, hp, hk⟩ := h
  have hO := hc.1
  have k1 : mKd M 1 = (5, 5) := hO.k 1
  obtain ⟨p, R, g, Lc, op, co, md, hS, hL, hC, hM⟩ := id hp
  by_cases c1 : 0 ≤ z.toInt ∧ z.toInt ≤ 2 ∧ gmE p R op x y
  · obtain ⟨M1, M2, hB, hE, g0, hp2, f, f1⟩ := op_book_ok (d := 94) hO hS hL hC hM c1
    refine ⟨iI 0, M1, M2, ?_, hE.up 4, g0, (hc.fr f1).up (by omega), (hc.fr f).up (by omega), InvC.of hw (f.gi 2) (f.gi 3) (f.gi 4) (f.g28 3) (f.gi 29) (f.gi 30), InvC.of ht (f.gi 5) (f.gi 6) (f.gi 7) (f.g28 6) (f.gi 31) (f.gi 32), hb.of (f.gi 8) (f.gi 9) (f.gi 10) (f.gi 11) (f.gi 33) (f.gi 34) (f.g28 7) (f.g28 8), hp2, hk.of (f.gi 25) (f.gi 26) (f.gi 27) (f.g28 23) (f.g28 24) (f.gi 45) (f.gi 46)⟩
    show mP (98 + 1) mLaw_book 0 [.ref 1, .int x, .int y, .int z, .retAddr 0] [] M _
    (repeat (first | refine mP_go rfl rfl ?_ | ((show mP _ _ _ _ (Value.ref _ :: _) _ _); first | refine mP_getIv rfl (by assumption) (by assumption) ?_ | refine mP_getI rfl (by assumption) ?_ | refine mP_getR rfl (by assumption) (by assumption) ?_ | refine mP_getLv rfl (by assumption) (by assumption) ?_ | refine mP_getL rfl (by assumption) ?_) | ((show mP _ _ _ _ (_ :: Value.ref _ :: _) _ _); first | refine mP_putI rfl (by assumption) ?_ | refine mP_putL rfl (by assumption) ?_)); (try dsimp only))
    refine mP_V rfl rfl (by assumption) rfl hB ?_
    (repeat (first | refine mP_go rfl rfl ?_ | ((show mP _ _ _ _ (Value.ref _ :: _) _ _); first | refine mP_getIv rfl (by assumption) (by assumption) ?_ | refine mP_getI rfl (by assumption) ?_ | refine mP_getR rfl (by assumption) (by assumption) ?_ | refine mP_getLv rfl (by assumption) (by assumption) ?_ | refine mP_getL rfl (by assumption) ?_) | ((show mP _ _ _ _ (_ :: Value.ref _ :: _) _ _); first | refine mP_putI rfl (by assumption) ?_ | refine mP_putL rfl (by assumption) ?_)); (try dsimp only))
    exact mP_ret rfl rfl ⟨rfl, rfl⟩
  · have hN := h'.new 7
    obtain ⟨hc, hw, ht, hb, hp, hk⟩ := hN
    have e := fun a (ha : a < 48) => new_i hO 7 6 a ha
    have e28 : mi (mNew M 7 6) 28 = mi M 28 := e 28 (by decide)
    have hM2 : pM p R g Lc op co md (mNew M 7 6) := hM.of (by rw [e28]) (by rw [e28]) (e 36 (by decide)) (e 37 (by decide)) (e 38 (by decide)) (e 39 (by decide)) (e 40 (by decide))
    have f := thr_fr (mNew M 7 6) (iI 1)
    refine ⟨iI 1, mNew M 7 6, thr (mNew M 7 6) (iI 1), ?_, sp_mbook_no (d := 98) (new_ok hO 7 6) hS hM2 c1, rfl, hc, hc.fr f, InvC.of hw (f.gi 2) (f.gi 3) (f.gi 4) (f.g28 3) (f.gi 29) (f.gi 30), InvC.of ht (f.gi 5) (f.gi 6) (f.gi 7) (f.g28 6) (f.gi 31) (f.gi 32), hb.of (f.gi 8) (f.gi 9) (f.gi 10) (f.gi 11) (f.gi 33) (f.gi 34) (f.g28 7) (f.g28 8), hp.of (f.gi 12) (f.gl 12) (f.gi 13) (f.gi 14) (f.gi 15) (f.gi 16) (f.gi 17) (f.gi 18) (f.g28 12) (f.g28 13) (f.gi 36) (f.gi 37) (f.gi 38) (f.gi 39) (f.gi 40), hk.of (f.gi 25) (f.gi 26) (f.gi 27) (f.g28 23) (f.g28 24) (f.gi 45) (f.gi 46)⟩
    show mP (98 + 1) mLaw_book 0 [.ref 1, .int x, .int y, .int z, .retAddr 0] [] M _
    (repeat (first | refine mP_go rfl rfl ?_ | ((show mP _ _ _ _ (Value.ref _ :: _) _ _); first | refine mP_getIv rfl (by assumption) (by assumption) ?_ | refine mP_getI rfl (by assumption) ?_ | refine mP_getR rfl (by assumption) (by assumption) ?_ | refine mP_getLv rfl (by assumption) (by assumption) ?_ | refine mP_getL rfl (by assumption) ?_) | ((show mP _ _ _ _ (_ :: Value.ref _ :: _) _ _); first | refine mP_putI rfl (by assumption) ?_ | refine mP_putL rfl (by assumption) ?_)); (try dsimp only))
    refine mP_VT rfl rfl k1 rfl (sp_book_thr (d := 92) hO hS hC c1) (h := 10) (by decide) ?_
    (repeat (first | refine mP_go rfl rfl ?_ | ((show mP _ _ _ _ (Value.ref _ :: _) _ _); first | refine mP_getIv rfl (by assumption) (by assumption) ?_ | refine mP_getI rfl (by assumption) ?_ | refine mP_getR rfl (by assumption) (by assumption) ?_ | refine mP_getLv rfl (by assumption) (by assumption) ?_ | refine mP_getL rfl (by assumption) ?_) | ((show mP _ _ _ _ (_ :: Value.ref _ :: _) _ _); first | refine mP_putI rfl (by assumption) ?_ | refine mP_putL rfl (by assumption) ?_)); (try dsimp only))
    exact mP_ret rfl rfl ⟨rfl, rfl⟩

