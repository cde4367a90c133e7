/-! looked at by program: the instructions of the law -/
set_option maxRecDepth 100000 in
theorem zkl_480 : (((zcode 342).drop 480).take 60).all (zck 342) = true := by decide +kernel
set_option maxRecDepth 100000 in
theorem zkl_540 : (((zcode 342).drop 540).take 60).all (zck 342) = true := by decide +kernel
set_option maxRecDepth 100000 in
theorem zkl_600 : (((zcode 342).drop 600).take 60).all (zck 342) = true := by decide +kernel
set_option maxRecDepth 100000 in
theorem zkl_660 : (((zcode 342).drop 660).take 60).all (zck 342) = true := by decide +kernel
set_option maxRecDepth 100000 in
theorem zkl_720 : (((zcode 342).drop 720).take 60).all (zck 342) = true := by decide +kernel
set_option maxRecDepth 100000 in
theorem zkl_780 : (((zcode 342).drop 780).take 60).all (zck 342) = true := by decide +kernel
set_option maxRecDepth 100000 in
theorem zkl_840 : (((zcode 342).drop 840).take 60).all (zck 342) = true := by decide +kernel
set_option maxRecDepth 100000 in
theorem zkl_900 : (((zcode 342).drop 900).take 60).all (zck 342) = true := by decide +kernel
