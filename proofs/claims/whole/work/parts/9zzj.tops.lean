/-! the search, by the kernel (printed: wip/gen/gencls.py) -/
set_option maxRecDepth 100000 in
theorem top0 : tops rt0 ((rt1 ++ (rt2 ++ (rt3 ++ (rt4 ++ (rt5 ++ (rt6 ++ (rt7 ++ (rt8 ++ (rt9 ++ (rt10 ++ (rt11 ++ (rt12 ++ (rt13 ++ (rt14 ++ rt15))))))))))))))) = true := by decide +kernel
set_option maxRecDepth 100000 in
theorem top1 : tops rt1 ((rt2 ++ (rt3 ++ (rt4 ++ (rt5 ++ (rt6 ++ (rt7 ++ (rt8 ++ (rt9 ++ (rt10 ++ (rt11 ++ (rt12 ++ (rt13 ++ (rt14 ++ rt15)))))))))))))) = true := by decide +kernel
set_option maxRecDepth 100000 in
theorem top2 : tops rt2 ((rt3 ++ (rt4 ++ (rt5 ++ (rt6 ++ (rt7 ++ (rt8 ++ (rt9 ++ (rt10 ++ (rt11 ++ (rt12 ++ (rt13 ++ (rt14 ++ rt15))))))))))))) = true := by decide +kernel
set_option maxRecDepth 100000 in
theorem top3 : tops rt3 ((rt4 ++ (rt5 ++ (rt6 ++ (rt7 ++ (rt8 ++ (rt9 ++ (rt10 ++ (rt11 ++ (rt12 ++ (rt13 ++ (rt14 ++ rt15)))))))))))) = true := by decide +kernel
set_option maxRecDepth 100000 in
theorem top4 : tops rt4 ((rt5 ++ (rt6 ++ (rt7 ++ (rt8 ++ (rt9 ++ (rt10 ++ (rt11 ++ (rt12 ++ (rt13 ++ (rt14 ++ rt15))))))))))) = true := by decide +kernel
set_option maxRecDepth 100000 in
theorem top5 : tops rt5 ((rt6 ++ (rt7 ++ (rt8 ++ (rt9 ++ (rt10 ++ (rt11 ++ (rt12 ++ (rt13 ++ (rt14 ++ rt15)))))))))) = true := by decide +kernel
set_option maxRecDepth 100000 in
theorem top6 : tops rt6 ((rt7 ++ (rt8 ++ (rt9 ++ (rt10 ++ (rt11 ++ (rt12 ++ (rt13 ++ (rt14 ++ rt15))))))))) = true := by decide +kernel
set_option maxRecDepth 100000 in
theorem top7 : tops rt7 ((rt8 ++ (rt9 ++ (rt10 ++ (rt11 ++ (rt12 ++ (rt13 ++ (rt14 ++ rt15)))))))) = true := by decide +kernel
set_option maxRecDepth 100000 in
theorem top8 : tops rt8 ((rt9 ++ (rt10 ++ (rt11 ++ (rt12 ++ (rt13 ++ (rt14 ++ rt15))))))) = true := by decide +kernel
set_option maxRecDepth 100000 in
theorem top9 : tops rt9 ((rt10 ++ (rt11 ++ (rt12 ++ (rt13 ++ (rt14 ++ rt15)))))) = true := by decide +kernel
set_option maxRecDepth 100000 in
theorem top10 : tops rt10 ((rt11 ++ (rt12 ++ (rt13 ++ (rt14 ++ rt15))))) = true := by decide +kernel
set_option maxRecDepth 100000 in
theorem top11 : tops rt11 ((rt12 ++ (rt13 ++ (rt14 ++ rt15)))) = true := by decide +kernel
set_option maxRecDepth 100000 in
theorem top12 : tops rt12 ((rt13 ++ (rt14 ++ rt15))) = true := by decide +kernel
set_option maxRecDepth 100000 in
theorem top13 : tops rt13 ((rt14 ++ rt15)) = true := by decide +kernel
set_option maxRecDepth 100000 in
theorem top14 : tops rt14 (rt15) = true := by decide +kernel
set_option maxRecDepth 100000 in
theorem top15 : tops rt15 ([]) = true := by decide +kernel
