set_option maxRecDepth 100000 in
theorem mOkl_11 : (List.range' 660 60).all mOkL = true := by decide +kernel
set_option maxRecDepth 100000 in
theorem mOkl_12 : (List.range' 720 60).all mOkL = true := by decide +kernel
set_option maxRecDepth 100000 in
theorem mOkl_13 : (List.range' 780 60).all mOkL = true := by decide +kernel
set_option maxRecDepth 100000 in
theorem mOkl_14 : (List.range' 840 18).all mOkL = true := by decide +kernel
theorem mOk_law : mOkM 152 = true := by
  refine List.all_eq_true.mpr (fun pc hpc => ?_)
  have hpc : pc < 858 := List.mem_range.mp hpc
  show mOkL pc = true
  by_cases h0 : pc < 60
  · exact List.all_eq_true.mp mOkl_0 pc (List.mem_range'_1.mpr (by omega))
  by_cases h1 : pc < 120
  · exact List.all_eq_true.mp mOkl_1 pc (List.mem_range'_1.mpr (by omega))
  by_cases h2 : pc < 180
  · exact List.all_eq_true.mp mOkl_2 pc (List.mem_range'_1.mpr (by omega))
  by_cases h3 : pc < 240
  · exact List.all_eq_true.mp mOkl_3 pc (List.mem_range'_1.mpr (by omega))
  by_cases h4 : pc < 300
  · exact List.all_eq_true.mp mOkl_4 pc (List.mem_range'_1.mpr (by omega))
  by_cases h5 : pc < 360
  · exact List.all_eq_true.mp mOkl_5 pc (List.mem_range'_1.mpr (by omega))
  by_cases h6 : pc < 420
  · exact List.all_eq_true.mp mOkl_6 pc (List.mem_range'_1.mpr (by omega))
  by_cases h7 : pc < 480
  · exact List.all_eq_true.mp mOkl_7 pc (List.mem_range'_1.mpr (by omega))
  by_cases h8 : pc < 540
  · exact List.all_eq_true.mp mOkl_8 pc (List.mem_range'_1.mpr (by omega))
  by_cases h9 : pc < 600
  · exact List.all_eq_true.mp mOkl_9 pc (List.mem_range'_1.mpr (by omega))
  by_cases h10 : pc < 660
  · exact List.all_eq_true.mp mOkl_10 pc (List.mem_range'_1.mpr (by omega))
  by_cases h11 : pc < 720
  · exact List.all_eq_true.mp mOkl_11 pc (List.mem_range'_1.mpr (by omega))
  by_cases h12 : pc < 780
  · exact List.all_eq_true.mp mOkl_12 pc (List.mem_range'_1.mpr (by omega))
  by_cases h13 : pc < 840
  · exact List.all_eq_true.mp mOkl_13 pc (List.mem_range'_1.mpr (by omega))
  by_cases h14 : pc < 858
  · exact List.all_eq_true.mp mOkl_14 pc (List.mem_range'_1.mpr (by omega))
  omega
theorem mOk_all {mt : Nat} (h : mt < 153) : mOkM mt = true := by
  by_cases h0 : mt < 12
  · exact List.all_eq_true.mp mOk_0 mt (List.mem_range'_1.mpr (by omega))
  by_cases h1 : mt < 24
  · exact List.all_eq_true.mp mOk_1 mt (List.mem_range'_1.mpr (by omega))
  by_cases h2 : mt < 36
  · exact List.all_eq_true.mp mOk_2 mt (List.mem_range'_1.mpr (by omega))
  by_cases h3 : mt < 48
  · exact List.all_eq_true.mp mOk_3 mt (List.mem_range'_1.mpr (by omega))
  by_cases h4 : mt < 60
  · exact List.all_eq_true.mp mOk_4 mt (List.mem_range'_1.mpr (by omega))
  by_cases h5 : mt < 72
  · exact List.all_eq_true.mp mOk_5 mt (List.mem_range'_1.mpr (by omega))
  by_cases h6 : mt < 84
  · exact List.all_eq_true.mp mOk_6 mt (List.mem_range'_1.mpr (by omega))
  by_cases h7 : mt < 96
  · exact List.all_eq_true.mp mOk_7 mt (List.mem_range'_1.mpr (by omega))
  by_cases h8 : mt < 108
  · exact List.all_eq_true.mp mOk_8 mt (List.mem_range'_1.mpr (by omega))
  by_cases h9 : mt < 120
  · exact List.all_eq_true.mp mOk_9 mt (List.mem_range'_1.mpr (by omega))
  by_cases h10 : mt < 132
  · exact List.all_eq_true.mp mOk_10 mt (List.mem_range'_1.mpr (by omega))
  by_cases h11 : mt < 144
  · exact List.all_eq_true.mp mOk_11 mt (List.mem_range'_1.mpr (by omega))
  by_cases h12 : mt < 152
  · exact List.all_eq_true.mp mOk_12 mt (List.mem_range'_1.mpr (by omega))
  have e : mt = 152 := by omega
  rw [e]
  exact mOk_law
theorem mIns_ok {mt pc : Nat} {r : Instr × Nat × Nat × Nat × Int} (h : mIns mt pc = some r) : mt < 153 ∧ mOkB mt pc r = true := by
  unfold mIns at h
  by_cases h1 : mt < 153
  · rw [if_pos h1] at h
    by_cases h2 : pc < mLen mt
    · rw [if_pos h2] at h
      have h3 := List.all_eq_true.mp (mOk_all h1) pc (List.mem_range.mpr h2)
      rw [h] at h3
      exact ⟨h1, h3⟩
    · rw [if_neg h2] at h; cases h
  · rw [if_neg h1] at h; cases h
theorem mYT_all {y : Nat} (h : y < 152) : mYP y ∧ mYI y := by
  have h1 : y ∈ mYT := by
    have : (List.range 152).all (fun y => decide (y ∈ mYT) && decide (y ∈ mYU)) = true := by decide +kernel
    have := List.all_eq_true.mp this y (List.mem_range.mpr h)
    simp only [Bool.and_eq_true, decide_eq_true_eq] at this
    exact this.1
  have h2 : y ∈ mYU := by
    have : (List.range 152).all (fun y => decide (y ∈ mYT) && decide (y ∈ mYU)) = true := by decide +kernel
    have := List.all_eq_true.mp this y (List.mem_range.mpr h)
    simp only [Bool.and_eq_true, decide_eq_true_eq] at this
    exact this.2
  exact ⟨mYT_ok y h1, mYU_ok y h2⟩
