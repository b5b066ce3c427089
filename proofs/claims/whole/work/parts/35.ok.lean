/-! the code holds against the check -/
theorem mk_ok0 : (List.range' 0 16).all mk_ckm = true := by decide +kernel
theorem mk_ok1 : (List.range' 16 16).all mk_ckm = true := by decide +kernel
theorem mk_ok2 : (List.range' 32 16).all mk_ckm = true := by decide +kernel
theorem mk_ok3 : (List.range' 48 16).all mk_ckm = true := by decide +kernel
theorem mk_ok4 : (List.range' 64 16).all mk_ckm = true := by decide +kernel
theorem mk_ok5 : (List.range' 80 16).all mk_ckm = true := by decide +kernel
theorem mk_ok6 : (List.range' 96 16).all mk_ckm = true := by decide +kernel
theorem mk_ok7 : (List.range' 112 16).all mk_ckm = true := by decide +kernel
theorem mk_ok8 : (List.range' 128 16).all mk_ckm = true := by decide +kernel
theorem mk_ok9 : (List.range' 144 16).all mk_ckm = true := by decide +kernel
theorem mk_ok10 : (List.range' 160 16).all mk_ckm = true := by decide +kernel
theorem mk_ok11 : (List.range' 176 16).all mk_ckm = true := by decide +kernel
theorem mk_ok12 : (List.range' 192 16).all mk_ckm = true := by decide +kernel
theorem mk_ok13 : (List.range' 208 9).all mk_ckm = true := by decide +kernel
