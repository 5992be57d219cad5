/-! the search, by the kernel (printed: wip/gen/gencls.py) -/
set_option maxRecDepth 100000 in
theorem top0 : tops rt0 ((rt1 ++ (rt2 ++ (rt3 ++ (rt4 ++ (rt5 ++ (rt6 ++ (rt7 ++ (rt8 ++ (rt9 ++ (rt10 ++ (rt11 ++ (rt12 ++ (rt13 ++ (rt14 ++ rt15))))))))))))))) = true := by decide +kernel
set_option maxRecDepth 100000 in
theorem top1 : tops rt1 ((rt2 ++ (rt3 ++ (rt4 ++ (rt5 ++ (rt6 ++ (rt7 ++ (rt8 ++ (rt9 ++ (rt10 ++ (rt11 ++ (rt12 ++ (rt13 ++ (rt14 ++ rt15)))))))))))))) = true := by decide +kernel
set_option maxRecDepth 100000 in
theorem top2 : tops rt2 ((rt3 ++ (rt4 ++ (rt5 ++ (rt6 ++ (rt7 ++ (rt8 ++ (rt9 ++ (rt10 ++ (rt11 ++ (rt12 ++ (rt13 ++ (rt14 ++ rt15))))))))))))) = true := by decide +kernel
