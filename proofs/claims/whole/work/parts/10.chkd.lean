set_option maxRecDepth 100000 in
theorem mOkl_6 : (List.range' 360 60).all mOkL = true := by decide +kernel
set_option maxRecDepth 100000 in
theorem mOkl_7 : (List.range' 420 60).all mOkL = true := by decide +kernel
set_option maxRecDepth 100000 in
theorem mOkl_8 : (List.range' 480 60).all mOkL = true := by decide +kernel
set_option maxRecDepth 100000 in
theorem mOkl_9 : (List.range' 540 60).all mOkL = true := by decide +kernel
set_option maxRecDepth 100000 in
theorem mOkl_10 : (List.range' 600 60).all mOkL = true := by decide +kernel
