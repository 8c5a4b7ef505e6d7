/-! every method's tree is its code -/
set_option maxRecDepth 100000 in
theorem am_ok1 : (am_ML1.zip am_TL1).all am_okM = true := by decide +kernel
set_option maxRecDepth 100000 in
theorem am_ok2 : (am_ML2.zip am_TL2).all am_okM = true := by decide +kernel
set_option maxRecDepth 100000 in
theorem am_ok3 : (am_ML3.zip am_TL3).all am_okM = true := by decide +kernel
set_option maxRecDepth 100000 in
theorem am_ok4 : (am_ML4.zip am_TL4).all am_okM = true := by decide +kernel
set_option maxRecDepth 100000 in
theorem am_ok5 : (am_ML5.zip am_TL5).all am_okM = true := by decide +kernel
set_option maxRecDepth 100000 in
theorem am_ok6 : (am_ML6.zip am_TL6).all am_okM = true := by decide +kernel
set_option maxRecDepth 100000 in
theorem am_ok7 : (am_ML7.zip am_TL7).all am_okM = true := by decide +kernel
