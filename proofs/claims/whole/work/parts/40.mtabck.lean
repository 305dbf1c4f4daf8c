set_option maxRecDepth 100000 in
theorem ckV_110 : ckV 1 1 false = true := by decide +kernel
set_option maxRecDepth 100000 in
theorem ckV_120 : ckV 1 2 false = true := by decide +kernel
set_option maxRecDepth 100000 in
theorem ckV_130 : ckV 1 3 false = true := by decide +kernel
set_option maxRecDepth 100000 in
theorem ckV_140 : ckV 1 4 false = true := by decide +kernel
set_option maxRecDepth 100000 in
theorem ckV_150 : ckV 1 5 false = true := by decide +kernel
set_option maxRecDepth 100000 in
theorem ckV_210 : ckV 2 1 false = true := by decide +kernel
set_option maxRecDepth 100000 in
theorem ckV_220 : ckV 2 2 false = true := by decide +kernel
set_option maxRecDepth 100000 in
theorem ckV_230 : ckV 2 3 false = true := by decide +kernel
set_option maxRecDepth 100000 in
theorem ckV_240 : ckV 2 4 false = true := by decide +kernel
set_option maxRecDepth 100000 in
theorem ckV_250 : ckV 2 5 false = true := by decide +kernel
set_option maxRecDepth 100000 in
theorem ckV_310 : ckV 3 1 false = true := by decide +kernel
set_option maxRecDepth 100000 in
theorem ckV_320 : ckV 3 2 false = true := by decide +kernel
set_option maxRecDepth 100000 in
theorem ckV_330 : ckV 3 3 false = true := by decide +kernel
set_option maxRecDepth 100000 in
theorem ckV_340 : ckV 3 4 false = true := by decide +kernel
set_option maxRecDepth 100000 in
theorem ckV_350 : ckV 3 5 false = true := by decide +kernel
set_option maxRecDepth 100000 in
theorem ckV_410 : ckV 4 1 false = true := by decide +kernel
set_option maxRecDepth 100000 in
theorem ckV_420 : ckV 4 2 false = true := by decide +kernel
set_option maxRecDepth 100000 in
theorem ckV_430 : ckV 4 3 false = true := by decide +kernel
set_option maxRecDepth 100000 in
theorem ckV_440 : ckV 4 4 false = true := by decide +kernel
set_option maxRecDepth 100000 in
theorem ckV_450 : ckV 4 5 false = true := by decide +kernel
set_option maxRecDepth 100000 in
theorem ckV_510 : ckV 5 1 false = true := by decide +kernel
set_option maxRecDepth 100000 in
theorem ckV_520 : ckV 5 2 false = true := by decide +kernel
set_option maxRecDepth 100000 in
theorem ckV_530 : ckV 5 3 false = true := by decide +kernel
set_option maxRecDepth 100000 in
theorem ckV_540 : ckV 5 4 false = true := by decide +kernel
set_option maxRecDepth 100000 in
theorem ckV_221 : ckV 2 2 true = true := by decide +kernel
set_option maxRecDepth 100000 in
theorem ckV_241 : ckV 2 4 true = true := by decide +kernel
set_option maxRecDepth 100000 in
theorem ckV_421 : ckV 4 2 true = true := by decide +kernel
set_option maxRecDepth 100000 in
theorem ckV_441 : ckV 4 4 true = true := by decide +kernel
