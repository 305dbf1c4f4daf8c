set_option maxRecDepth 100000 in
theorem ckF_ok : ckF = true := by decide +kernel
set_option maxRecDepth 100000 in
theorem ckW_110 : ckW 1 1 false = true := by decide +kernel
set_option maxRecDepth 100000 in
theorem ckW_120 : ckW 1 2 false = true := by decide +kernel
set_option maxRecDepth 100000 in
theorem ckW_130 : ckW 1 3 false = true := by decide +kernel
set_option maxRecDepth 100000 in
theorem ckW_140 : ckW 1 4 false = true := by decide +kernel
set_option maxRecDepth 100000 in
theorem ckW_150 : ckW 1 5 false = true := by decide +kernel
set_option maxRecDepth 100000 in
theorem ckW_210 : ckW 2 1 false = true := by decide +kernel
set_option maxRecDepth 100000 in
theorem ckW_220 : ckW 2 2 false = true := by decide +kernel
set_option maxRecDepth 100000 in
theorem ckW_230 : ckW 2 3 false = true := by decide +kernel
set_option maxRecDepth 100000 in
theorem ckW_240 : ckW 2 4 false = true := by decide +kernel
set_option maxRecDepth 100000 in
theorem ckW_250 : ckW 2 5 false = true := by decide +kernel
set_option maxRecDepth 100000 in
theorem ckW_310 : ckW 3 1 false = true := by decide +kernel
set_option maxRecDepth 100000 in
theorem ckW_320 : ckW 3 2 false = true := by decide +kernel
set_option maxRecDepth 100000 in
theorem ckW_330 : ckW 3 3 false = true := by decide +kernel
set_option maxRecDepth 100000 in
theorem ckW_340 : ckW 3 4 false = true := by decide +kernel
set_option maxRecDepth 100000 in
theorem ckW_350 : ckW 3 5 false = true := by decide +kernel
set_option maxRecDepth 100000 in
theorem ckW_410 : ckW 4 1 false = true := by decide +kernel
set_option maxRecDepth 100000 in
theorem ckW_420 : ckW 4 2 false = true := by decide +kernel
set_option maxRecDepth 100000 in
theorem ckW_430 : ckW 4 3 false = true := by decide +kernel
set_option maxRecDepth 100000 in
theorem ckW_440 : ckW 4 4 false = true := by decide +kernel
set_option maxRecDepth 100000 in
theorem ckW_450 : ckW 4 5 false = true := by decide +kernel
set_option maxRecDepth 100000 in
theorem ckW_510 : ckW 5 1 false = true := by decide +kernel
set_option maxRecDepth 100000 in
theorem ckW_520 : ckW 5 2 false = true := by decide +kernel
set_option maxRecDepth 100000 in
theorem ckW_530 : ckW 5 3 false = true := by decide +kernel
set_option maxRecDepth 100000 in
theorem ckW_540 : ckW 5 4 false = true := by decide +kernel
set_option maxRecDepth 100000 in
theorem ckW_221 : ckW 2 2 true = true := by decide +kernel
set_option maxRecDepth 100000 in
theorem ckW_241 : ckW 2 4 true = true := by decide +kernel
set_option maxRecDepth 100000 in
theorem ckW_421 : ckW 4 2 true = true := by decide +kernel
set_option maxRecDepth 100000 in
theorem ckW_441 : ckW 4 4 true = true := by decide +kernel
