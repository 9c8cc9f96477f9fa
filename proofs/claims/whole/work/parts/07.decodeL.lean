set_option maxRecDepth 100000 in
theorem pj_d152_0 : ((pj_c152.drop 0).take 100).all (pj_okD cL_law) = true := by decide +kernel
set_option maxRecDepth 100000 in
theorem pj_d152_100 : ((pj_c152.drop 100).take 100).all (pj_okD cL_law) = true := by decide +kernel
set_option maxRecDepth 100000 in
theorem pj_d152_200 : ((pj_c152.drop 200).take 100).all (pj_okD cL_law) = true := by decide +kernel
set_option maxRecDepth 100000 in
theorem pj_d152_300 : ((pj_c152.drop 300).take 100).all (pj_okD cL_law) = true := by decide +kernel
set_option maxRecDepth 100000 in
theorem pj_d152_400 : ((pj_c152.drop 400).take 100).all (pj_okD cL_law) = true := by decide +kernel
set_option maxRecDepth 100000 in
theorem pj_d152_500 : ((pj_c152.drop 500).take 100).all (pj_okD cL_law) = true := by decide +kernel
set_option maxRecDepth 100000 in
theorem pj_d152_600 : ((pj_c152.drop 600).take 100).all (pj_okD cL_law) = true := by decide +kernel
set_option maxRecDepth 100000 in
theorem pj_d152_700 : ((pj_c152.drop 700).take 100).all (pj_okD cL_law) = true := by decide +kernel
