/-! looked at by program: the instructions of the law -/
set_option maxRecDepth 100000 in
theorem zkl_0 : (((zcode 342).drop 0).take 60).all (zck 342) = true := by decide +kernel
set_option maxRecDepth 100000 in
theorem zkl_60 : (((zcode 342).drop 60).take 60).all (zck 342) = true := by decide +kernel
set_option maxRecDepth 100000 in
theorem zkl_120 : (((zcode 342).drop 120).take 60).all (zck 342) = true := by decide +kernel
set_option maxRecDepth 100000 in
theorem zkl_180 : (((zcode 342).drop 180).take 60).all (zck 342) = true := by decide +kernel
set_option maxRecDepth 100000 in
theorem zkl_240 : (((zcode 342).drop 240).take 60).all (zck 342) = true := by decide +kernel
set_option maxRecDepth 100000 in
theorem zkl_300 : (((zcode 342).drop 300).take 60).all (zck 342) = true := by decide +kernel
set_option maxRecDepth 100000 in
theorem zkl_360 : (((zcode 342).drop 360).take 60).all (zck 342) = true := by decide +kernel
set_option maxRecDepth 100000 in
theorem zkl_420 : (((zcode 342).drop 420).take 60).all (zck 342) = true := by decide +kernel
