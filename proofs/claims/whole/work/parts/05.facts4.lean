/-! looked at by program: the instructions -/
set_option maxRecDepth 100000 in
theorem zk_198 : ((List.range' 198 20).all zckM) = true := by decide +kernel
set_option maxRecDepth 100000 in
theorem zk_218 : ((List.range' 218 17).all zckM) = true := by decide +kernel
set_option maxRecDepth 100000 in
theorem zk_235 : ((List.range' 235 14).all zckM) = true := by decide +kernel
set_option maxRecDepth 100000 in
theorem zk_249 : ((List.range' 249 14).all zckM) = true := by decide +kernel
set_option maxRecDepth 100000 in
theorem zk_263 : ((List.range' 263 16).all zckM) = true := by decide +kernel
set_option maxRecDepth 100000 in
theorem zk_279 : ((List.range' 279 10).all zckM) = true := by decide +kernel
set_option maxRecDepth 100000 in
theorem zk_289 : ((List.range' 289 19).all zckM) = true := by decide +kernel
set_option maxRecDepth 100000 in
theorem zk_308 : ((List.range' 308 15).all zckM) = true := by decide +kernel
set_option maxRecDepth 100000 in
theorem zk_323 : ((List.range' 323 19).all zckM) = true := by decide +kernel
