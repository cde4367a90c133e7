/-! looked at by program: the instructions -/
set_option maxRecDepth 100000 in
theorem zk_0 : ((List.range' 0 26).all zckM) = true := by decide +kernel
set_option maxRecDepth 100000 in
theorem zk_26 : ((List.range' 26 22).all zckM) = true := by decide +kernel
set_option maxRecDepth 100000 in
theorem zk_48 : ((List.range' 48 21).all zckM) = true := by decide +kernel
set_option maxRecDepth 100000 in
theorem zk_69 : ((List.range' 69 21).all zckM) = true := by decide +kernel
set_option maxRecDepth 100000 in
theorem zk_90 : ((List.range' 90 16).all zckM) = true := by decide +kernel
set_option maxRecDepth 100000 in
theorem zk_106 : ((List.range' 106 18).all zckM) = true := by decide +kernel
set_option maxRecDepth 100000 in
theorem zk_124 : ((List.range' 124 26).all zckM) = true := by decide +kernel
set_option maxRecDepth 100000 in
theorem zk_150 : ((List.range' 150 18).all zckM) = true := by decide +kernel
set_option maxRecDepth 100000 in
theorem zk_168 : ((List.range' 168 30).all zckM) = true := by decide +kernel
