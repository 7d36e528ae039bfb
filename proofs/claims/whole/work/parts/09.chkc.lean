def mOkL (pc : Nat) : Bool := match mI 152 pc with
  | none => true
  | some r => mOkB 152 pc r
set_option maxRecDepth 100000 in
theorem mOkl_0 : (List.range' 0 60).all mOkL = true := by decide +kernel
set_option maxRecDepth 100000 in
theorem mOkl_1 : (List.range' 60 60).all mOkL = true := by decide +kernel
set_option maxRecDepth 100000 in
theorem mOkl_2 : (List.range' 120 60).all mOkL = true := by decide +kernel
set_option maxRecDepth 100000 in
theorem mOkl_3 : (List.range' 180 60).all mOkL = true := by decide +kernel
set_option maxRecDepth 100000 in
theorem mOkl_4 : (List.range' 240 60).all mOkL = true := by decide +kernel
set_option maxRecDepth 100000 in
theorem mOkl_5 : (List.range' 300 60).all mOkL = true := by decide +kernel
