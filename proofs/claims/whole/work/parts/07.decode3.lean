set_option maxRecDepth 100000 in
theorem pj_d114 : pj_c114.all (pj_okD cX7_due) = true := by decide +kernel
set_option maxRecDepth 100000 in
theorem pj_d115 : pj_c115.all (pj_okD cX7_dueAll) = true := by decide +kernel
set_option maxRecDepth 100000 in
theorem pj_d116 : pj_c116.all (pj_okD cX7_beginsWith) = true := by decide +kernel
set_option maxRecDepth 100000 in
theorem pj_d117 : pj_c117.all (pj_okD cX7_turnsWays) = true := by decide +kernel
set_option maxRecDepth 100000 in
theorem pj_d118 : pj_c118.all (pj_okD cX7_agreesWith) = true := by decide +kernel
set_option maxRecDepth 100000 in
theorem pj_d119 : pj_c119.all (pj_okD cX7_many) = true := by decide +kernel
set_option maxRecDepth 100000 in
theorem pj_d120 : pj_c120.all (pj_okD cX7_mayBreak) = true := by decide +kernel
set_option maxRecDepth 100000 in
theorem pj_d121 : pj_c121.all (pj_okD cX7_find) = true := by decide +kernel
set_option maxRecDepth 100000 in
theorem pj_d122 : pj_c122.all (pj_okD cX7_hasStory) = true := by decide +kernel
set_option maxRecDepth 100000 in
theorem pj_d123 : pj_c123.all (pj_okD cX7_stories) = true := by decide +kernel
set_option maxRecDepth 100000 in
theorem pj_d124 : pj_c124.all (pj_okD cX7_story) = true := by decide +kernel
set_option maxRecDepth 100000 in
theorem pj_d125 : pj_c125.all (pj_okD cX7_isSet) = true := by decide +kernel
set_option maxRecDepth 100000 in
theorem pj_d126 : pj_c126.all (pj_okD cX7_hasMeter) = true := by decide +kernel
set_option maxRecDepth 100000 in
theorem pj_d127 : pj_c127.all (pj_okD cX7_agrees) = true := by decide +kernel
set_option maxRecDepth 100000 in
theorem pj_d128 : pj_c128.all (pj_okD cX7_weightOf) = true := by decide +kernel
set_option maxRecDepth 100000 in
theorem pj_d129 : pj_c129.all (pj_okD cX7_weigh) = true := by decide +kernel
set_option maxRecDepth 100000 in
theorem pj_d130 : pj_c130.all (pj_okD cX7_likely) = true := by decide +kernel
set_option maxRecDepth 100000 in
theorem pj_d131 : pj_c131.all (pj_okD cX7_chance) = true := by decide +kernel
set_option maxRecDepth 100000 in
theorem pj_d132 : pj_c132.all (pj_okD cX7_isQuarrel) = true := by decide +kernel
set_option maxRecDepth 100000 in
theorem pj_d133 : pj_c133.all (pj_okD cX7_judged) = true := by decide +kernel
set_option maxRecDepth 100000 in
theorem pj_d134 : pj_c134.all (pj_okD cX7_quarrelAt) = true := by decide +kernel
set_option maxRecDepth 100000 in
theorem pj_d135 : pj_c135.all (pj_okD cX7_quarrels) = true := by decide +kernel
set_option maxRecDepth 100000 in
theorem pj_d136 : pj_c136.all (pj_okD cX7_quarrel) = true := by decide +kernel
set_option maxRecDepth 100000 in
theorem pj_d137 : pj_c137.all (pj_okD cX7_judge) = true := by decide +kernel
set_option maxRecDepth 100000 in
theorem pj_d138 : pj_c138.all (pj_okD cX7_values) = true := by decide +kernel
set_option maxRecDepth 100000 in
theorem pj_d139 : pj_c139.all (pj_okD cX7_worthOf) = true := by decide +kernel
set_option maxRecDepth 100000 in
theorem pj_d140 : pj_c140.all (pj_okD cX7_worth) = true := by decide +kernel
set_option maxRecDepth 100000 in
theorem pj_d141 : pj_c141.all (pj_okD cX7_tells) = true := by decide +kernel
set_option maxRecDepth 100000 in
theorem pj_d142 : pj_c142.all (pj_okD cX7_isMeter) = true := by decide +kernel
set_option maxRecDepth 100000 in
theorem pj_d143 : pj_c143.all (pj_okD cX7_next) = true := by decide +kernel
set_option maxRecDepth 100000 in
theorem pj_d144 : pj_c144.all (pj_okD cX7_apart) = true := by decide +kernel
set_option maxRecDepth 100000 in
theorem pj_d145 : pj_c145.all (pj_okD cX7_lay) = true := by decide +kernel
set_option maxRecDepth 100000 in
theorem pj_d146 : pj_c146.all (pj_okD cX7_tear) = true := by decide +kernel
set_option maxRecDepth 100000 in
theorem pj_d147 : pj_c147.all (pj_okD cX7_row) = true := by decide +kernel
set_option maxRecDepth 100000 in
theorem pj_d148 : pj_c148.all (pj_okD cX7_copy) = true := by decide +kernel
set_option maxRecDepth 100000 in
theorem pj_d149 : pj_c149.all (pj_okD cX7_status) = true := by decide +kernel
set_option maxRecDepth 100000 in
theorem pj_d150 : pj_c150.all (pj_okD cJ6_bitCount_0f7a4) = true := by decide +kernel
set_option maxRecDepth 100000 in
theorem pj_d151 : pj_c151.all (pj_okD cJ7_fill_53178) = true := by decide +kernel
