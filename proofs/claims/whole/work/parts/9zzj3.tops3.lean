/-! the search, by the kernel (printed: wip/gen/gencls.py) -/
set_option maxRecDepth 100000 in
theorem top7 : tops rt7 ((rt8 ++ (rt9 ++ (rt10 ++ (rt11 ++ (rt12 ++ (rt13 ++ (rt14 ++ rt15)))))))) = true := by decide +kernel
set_option maxRecDepth 100000 in
theorem top8 : tops rt8 ((rt9 ++ (rt10 ++ (rt11 ++ (rt12 ++ (rt13 ++ (rt14 ++ rt15))))))) = true := by decide +kernel
set_option maxRecDepth 100000 in
theorem top9 : tops rt9 ((rt10 ++ (rt11 ++ (rt12 ++ (rt13 ++ (rt14 ++ rt15)))))) = true := by decide +kernel
set_option maxRecDepth 100000 in
theorem top10 : tops rt10 ((rt11 ++ (rt12 ++ (rt13 ++ (rt14 ++ rt15))))) = true := by decide +kernel
set_option maxRecDepth 100000 in
theorem top11 : tops rt11 ((rt12 ++ (rt13 ++ (rt14 ++ rt15)))) = true := by decide +kernel
set_option maxRecDepth 100000 in
theorem top12 : tops rt12 ((rt13 ++ (rt14 ++ rt15))) = true := by decide +kernel
set_option maxRecDepth 100000 in
theorem top13 : tops rt13 ((rt14 ++ rt15)) = true := by decide +kernel
set_option maxRecDepth 100000 in
theorem top14 : tops rt14 (rt15) = true := by decide +kernel
set_option maxRecDepth 100000 in
theorem top15 : tops rt15 ([]) = true := by decide +kernel
