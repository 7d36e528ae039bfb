set_option maxRecDepth 100000 in
theorem mOk_0 : (List.range' 0 12).all mOkM = true := by decide +kernel
set_option maxRecDepth 100000 in
theorem mOk_1 : (List.range' 12 12).all mOkM = true := by decide +kernel
set_option maxRecDepth 100000 in
theorem mOk_2 : (List.range' 24 12).all mOkM = true := by decide +kernel
set_option maxRecDepth 100000 in
theorem mOk_3 : (List.range' 36 12).all mOkM = true := by decide +kernel
set_option maxRecDepth 100000 in
theorem mOk_4 : (List.range' 48 12).all mOkM = true := by decide +kernel
set_option maxRecDepth 100000 in
theorem mOk_5 : (List.range' 60 12).all mOkM = true := by decide +kernel
