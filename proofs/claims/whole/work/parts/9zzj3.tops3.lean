/-! the search, by the kernel (printed: wip/gen/gencls.py) -/
set_option maxRecDepth 100000 in
theorem top27 : tops rt27 ((rt28 ++ (rt29 ++ (rt30 ++ (rt31 ++ (rt32 ++ (rt33 ++ (rt34 ++ (rt35 ++ (rt36 ++ (rt37 ++ (rt38 ++ (rt39 ++ (rt40 ++ (rt41 ++ (rt42 ++ (rt43 ++ (rt44 ++ (rt45 ++ (rt46 ++ (rt47 ++ (rt48 ++ (rt49 ++ (rt50 ++ (rt51 ++ (rt52 ++ (rt53 ++ rt54))))))))))))))))))))))))))) = true := by decide +kernel
set_option maxRecDepth 100000 in
theorem top28 : tops rt28 ((rt29 ++ (rt30 ++ (rt31 ++ (rt32 ++ (rt33 ++ (rt34 ++ (rt35 ++ (rt36 ++ (rt37 ++ (rt38 ++ (rt39 ++ (rt40 ++ (rt41 ++ (rt42 ++ (rt43 ++ (rt44 ++ (rt45 ++ (rt46 ++ (rt47 ++ (rt48 ++ (rt49 ++ (rt50 ++ (rt51 ++ (rt52 ++ (rt53 ++ rt54)))))))))))))))))))))))))) = true := by decide +kernel
set_option maxRecDepth 100000 in
theorem top29 : tops rt29 ((rt30 ++ (rt31 ++ (rt32 ++ (rt33 ++ (rt34 ++ (rt35 ++ (rt36 ++ (rt37 ++ (rt38 ++ (rt39 ++ (rt40 ++ (rt41 ++ (rt42 ++ (rt43 ++ (rt44 ++ (rt45 ++ (rt46 ++ (rt47 ++ (rt48 ++ (rt49 ++ (rt50 ++ (rt51 ++ (rt52 ++ (rt53 ++ rt54))))))))))))))))))))))))) = true := by decide +kernel
set_option maxRecDepth 100000 in
theorem top30 : tops rt30 ((rt31 ++ (rt32 ++ (rt33 ++ (rt34 ++ (rt35 ++ (rt36 ++ (rt37 ++ (rt38 ++ (rt39 ++ (rt40 ++ (rt41 ++ (rt42 ++ (rt43 ++ (rt44 ++ (rt45 ++ (rt46 ++ (rt47 ++ (rt48 ++ (rt49 ++ (rt50 ++ (rt51 ++ (rt52 ++ (rt53 ++ rt54)))))))))))))))))))))))) = true := by decide +kernel
set_option maxRecDepth 100000 in
theorem top31 : tops rt31 ((rt32 ++ (rt33 ++ (rt34 ++ (rt35 ++ (rt36 ++ (rt37 ++ (rt38 ++ (rt39 ++ (rt40 ++ (rt41 ++ (rt42 ++ (rt43 ++ (rt44 ++ (rt45 ++ (rt46 ++ (rt47 ++ (rt48 ++ (rt49 ++ (rt50 ++ (rt51 ++ (rt52 ++ (rt53 ++ rt54))))))))))))))))))))))) = true := by decide +kernel
set_option maxRecDepth 100000 in
theorem top32 : tops rt32 ((rt33 ++ (rt34 ++ (rt35 ++ (rt36 ++ (rt37 ++ (rt38 ++ (rt39 ++ (rt40 ++ (rt41 ++ (rt42 ++ (rt43 ++ (rt44 ++ (rt45 ++ (rt46 ++ (rt47 ++ (rt48 ++ (rt49 ++ (rt50 ++ (rt51 ++ (rt52 ++ (rt53 ++ rt54)))))))))))))))))))))) = true := by decide +kernel
set_option maxRecDepth 100000 in
theorem top33 : tops rt33 ((rt34 ++ (rt35 ++ (rt36 ++ (rt37 ++ (rt38 ++ (rt39 ++ (rt40 ++ (rt41 ++ (rt42 ++ (rt43 ++ (rt44 ++ (rt45 ++ (rt46 ++ (rt47 ++ (rt48 ++ (rt49 ++ (rt50 ++ (rt51 ++ (rt52 ++ (rt53 ++ rt54))))))))))))))))))))) = true := by decide +kernel
set_option maxRecDepth 100000 in
theorem top34 : tops rt34 ((rt35 ++ (rt36 ++ (rt37 ++ (rt38 ++ (rt39 ++ (rt40 ++ (rt41 ++ (rt42 ++ (rt43 ++ (rt44 ++ (rt45 ++ (rt46 ++ (rt47 ++ (rt48 ++ (rt49 ++ (rt50 ++ (rt51 ++ (rt52 ++ (rt53 ++ rt54)))))))))))))))))))) = true := by decide +kernel
set_option maxRecDepth 100000 in
theorem top35 : tops rt35 ((rt36 ++ (rt37 ++ (rt38 ++ (rt39 ++ (rt40 ++ (rt41 ++ (rt42 ++ (rt43 ++ (rt44 ++ (rt45 ++ (rt46 ++ (rt47 ++ (rt48 ++ (rt49 ++ (rt50 ++ (rt51 ++ (rt52 ++ (rt53 ++ rt54))))))))))))))))))) = true := by decide +kernel
set_option maxRecDepth 100000 in
theorem top36 : tops rt36 ((rt37 ++ (rt38 ++ (rt39 ++ (rt40 ++ (rt41 ++ (rt42 ++ (rt43 ++ (rt44 ++ (rt45 ++ (rt46 ++ (rt47 ++ (rt48 ++ (rt49 ++ (rt50 ++ (rt51 ++ (rt52 ++ (rt53 ++ rt54)))))))))))))))))) = true := by decide +kernel
set_option maxRecDepth 100000 in
theorem top37 : tops rt37 ((rt38 ++ (rt39 ++ (rt40 ++ (rt41 ++ (rt42 ++ (rt43 ++ (rt44 ++ (rt45 ++ (rt46 ++ (rt47 ++ (rt48 ++ (rt49 ++ (rt50 ++ (rt51 ++ (rt52 ++ (rt53 ++ rt54))))))))))))))))) = true := by decide +kernel
set_option maxRecDepth 100000 in
theorem top38 : tops rt38 ((rt39 ++ (rt40 ++ (rt41 ++ (rt42 ++ (rt43 ++ (rt44 ++ (rt45 ++ (rt46 ++ (rt47 ++ (rt48 ++ (rt49 ++ (rt50 ++ (rt51 ++ (rt52 ++ (rt53 ++ rt54)))))))))))))))) = true := by decide +kernel
set_option maxRecDepth 100000 in
theorem top39 : tops rt39 ((rt40 ++ (rt41 ++ (rt42 ++ (rt43 ++ (rt44 ++ (rt45 ++ (rt46 ++ (rt47 ++ (rt48 ++ (rt49 ++ (rt50 ++ (rt51 ++ (rt52 ++ (rt53 ++ rt54))))))))))))))) = true := by decide +kernel
set_option maxRecDepth 100000 in
theorem top40 : tops rt40 ((rt41 ++ (rt42 ++ (rt43 ++ (rt44 ++ (rt45 ++ (rt46 ++ (rt47 ++ (rt48 ++ (rt49 ++ (rt50 ++ (rt51 ++ (rt52 ++ (rt53 ++ rt54)))))))))))))) = true := by decide +kernel
set_option maxRecDepth 100000 in
theorem top41 : tops rt41 ((rt42 ++ (rt43 ++ (rt44 ++ (rt45 ++ (rt46 ++ (rt47 ++ (rt48 ++ (rt49 ++ (rt50 ++ (rt51 ++ (rt52 ++ (rt53 ++ rt54))))))))))))) = true := by decide +kernel
set_option maxRecDepth 100000 in
theorem top42 : tops rt42 ((rt43 ++ (rt44 ++ (rt45 ++ (rt46 ++ (rt47 ++ (rt48 ++ (rt49 ++ (rt50 ++ (rt51 ++ (rt52 ++ (rt53 ++ rt54)))))))))))) = true := by decide +kernel
set_option maxRecDepth 100000 in
theorem top43 : tops rt43 ((rt44 ++ (rt45 ++ (rt46 ++ (rt47 ++ (rt48 ++ (rt49 ++ (rt50 ++ (rt51 ++ (rt52 ++ (rt53 ++ rt54))))))))))) = true := by decide +kernel
set_option maxRecDepth 100000 in
theorem top44 : tops rt44 ((rt45 ++ (rt46 ++ (rt47 ++ (rt48 ++ (rt49 ++ (rt50 ++ (rt51 ++ (rt52 ++ (rt53 ++ rt54)))))))))) = true := by decide +kernel
set_option maxRecDepth 100000 in
theorem top45 : tops rt45 ((rt46 ++ (rt47 ++ (rt48 ++ (rt49 ++ (rt50 ++ (rt51 ++ (rt52 ++ (rt53 ++ rt54))))))))) = true := by decide +kernel
set_option maxRecDepth 100000 in
theorem top46 : tops rt46 ((rt47 ++ (rt48 ++ (rt49 ++ (rt50 ++ (rt51 ++ (rt52 ++ (rt53 ++ rt54)))))))) = true := by decide +kernel
set_option maxRecDepth 100000 in
theorem top47 : tops rt47 ((rt48 ++ (rt49 ++ (rt50 ++ (rt51 ++ (rt52 ++ (rt53 ++ rt54))))))) = true := by decide +kernel
set_option maxRecDepth 100000 in
theorem top48 : tops rt48 ((rt49 ++ (rt50 ++ (rt51 ++ (rt52 ++ (rt53 ++ rt54)))))) = true := by decide +kernel
set_option maxRecDepth 100000 in
theorem top49 : tops rt49 ((rt50 ++ (rt51 ++ (rt52 ++ (rt53 ++ rt54))))) = true := by decide +kernel
set_option maxRecDepth 100000 in
theorem top50 : tops rt50 ((rt51 ++ (rt52 ++ (rt53 ++ rt54)))) = true := by decide +kernel
set_option maxRecDepth 100000 in
theorem top51 : tops rt51 ((rt52 ++ (rt53 ++ rt54))) = true := by decide +kernel
set_option maxRecDepth 100000 in
theorem top52 : tops rt52 ((rt53 ++ rt54)) = true := by decide +kernel
set_option maxRecDepth 100000 in
theorem top53 : tops rt53 (rt54) = true := by decide +kernel
set_option maxRecDepth 100000 in
theorem top54 : tops rt54 ([]) = true := by decide +kernel
