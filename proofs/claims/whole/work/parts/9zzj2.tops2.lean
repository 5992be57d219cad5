/-! the search, by the kernel (printed: wip/gen/gencls.py) -/
set_option maxRecDepth 100000 in
theorem top3 : tops rt3 ((rt4 ++ (rt5 ++ (rt6 ++ (rt7 ++ (rt8 ++ (rt9 ++ (rt10 ++ (rt11 ++ (rt12 ++ (rt13 ++ (rt14 ++ rt15)))))))))))) = true := by decide +kernel
set_option maxRecDepth 100000 in
theorem top4 : tops rt4 ((rt5 ++ (rt6 ++ (rt7 ++ (rt8 ++ (rt9 ++ (rt10 ++ (rt11 ++ (rt12 ++ (rt13 ++ (rt14 ++ rt15))))))))))) = true := by decide +kernel
set_option maxRecDepth 100000 in
theorem top5 : tops rt5 ((rt6 ++ (rt7 ++ (rt8 ++ (rt9 ++ (rt10 ++ (rt11 ++ (rt12 ++ (rt13 ++ (rt14 ++ rt15)))))))))) = true := by decide +kernel
set_option maxRecDepth 100000 in
theorem top6 : tops rt6 ((rt7 ++ (rt8 ++ (rt9 ++ (rt10 ++ (rt11 ++ (rt12 ++ (rt13 ++ (rt14 ++ rt15))))))))) = true := by decide +kernel
