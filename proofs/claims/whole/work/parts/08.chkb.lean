set_option maxRecDepth 100000 in
theorem mOk_6 : (List.range' 72 12).all mOkM = true := by decide +kernel
set_option maxRecDepth 100000 in
theorem mOk_7 : (List.range' 84 12).all mOkM = true := by decide +kernel
set_option maxRecDepth 100000 in
theorem mOk_8 : (List.range' 96 12).all mOkM = true := by decide +kernel
set_option maxRecDepth 100000 in
theorem mOk_9 : (List.range' 108 12).all mOkM = true := by decide +kernel
set_option maxRecDepth 100000 in
theorem mOk_10 : (List.range' 120 12).all mOkM = true := by decide +kernel
set_option maxRecDepth 100000 in
theorem mOk_11 : (List.range' 132 12).all mOkM = true := by decide +kernel
set_option maxRecDepth 100000 in
theorem mOk_12 : (List.range' 144 8).all mOkM = true := by decide +kernel
