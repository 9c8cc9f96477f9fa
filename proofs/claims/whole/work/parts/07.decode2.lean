set_option maxRecDepth 100000 in
theorem pj_d76 : pj_c76.all (pj_okD cX6_status) = true := by decide +kernel
set_option maxRecDepth 100000 in
theorem pj_d77 : pj_c77.all (pj_okD cX6_refuse) = true := by decide +kernel
set_option maxRecDepth 100000 in
theorem pj_d78 : pj_c78.all (pj_okD cX6_isWire) = true := by decide +kernel
set_option maxRecDepth 100000 in
theorem pj_d79 : pj_c79.all (pj_okD cX6_isPart) = true := by decide +kernel
set_option maxRecDepth 100000 in
theorem pj_d80 : pj_c80.all (pj_okD cX6_isTick) = true := by decide +kernel
set_option maxRecDepth 100000 in
theorem pj_d81 : pj_c81.all (pj_okD cX6_areParts) = true := by decide +kernel
set_option maxRecDepth 100000 in
theorem pj_d82 : pj_c82.all (pj_okD cX6_isMetered) = true := by decide +kernel
set_option maxRecDepth 100000 in
theorem pj_d83 : pj_c83.all (pj_okD cX6_commonDivisor) = true := by decide +kernel
set_option maxRecDepth 100000 in
theorem pj_d84 : pj_c84.all (pj_okD cX7_init) = true := by decide +kernel
set_option maxRecDepth 100000 in
theorem pj_d85 : pj_c85.all (pj_okD cX7_isIn) = true := by decide +kernel
set_option maxRecDepth 100000 in
theorem pj_d86 : pj_c86.all (pj_okD cX7_no) = true := by decide +kernel
set_option maxRecDepth 100000 in
theorem pj_d87 : pj_c87.all (pj_okD cX7_isWire) = true := by decide +kernel
set_option maxRecDepth 100000 in
theorem pj_d88 : pj_c88.all (pj_okD cX7_isPart) = true := by decide +kernel
set_option maxRecDepth 100000 in
theorem pj_d89 : pj_c89.all (pj_okD cX7_isTick) = true := by decide +kernel
set_option maxRecDepth 100000 in
theorem pj_d90 : pj_c90.all (pj_okD cX7_wire) = true := by decide +kernel
set_option maxRecDepth 100000 in
theorem pj_d91 : pj_c91.all (pj_okD cX7_part) = true := by decide +kernel
set_option maxRecDepth 100000 in
theorem pj_d92 : pj_c92.all (pj_okD cX7_table) = true := by decide +kernel
set_option maxRecDepth 100000 in
theorem pj_d93 : pj_c93.all (pj_okD cX7_ways) = true := by decide +kernel
set_option maxRecDepth 100000 in
theorem pj_d94 : pj_c94.all (pj_okD cX7_odds) = true := by decide +kernel
set_option maxRecDepth 100000 in
theorem pj_d95 : pj_c95.all (pj_okD cX7_price) = true := by decide +kernel
set_option maxRecDepth 100000 in
theorem pj_d96 : pj_c96.all (pj_okD cX7_ticks) = true := by decide +kernel
set_option maxRecDepth 100000 in
theorem pj_d97 : pj_c97.all (pj_okD cX7_set) = true := by decide +kernel
set_option maxRecDepth 100000 in
theorem pj_d98 : pj_c98.all (pj_okD cX7_sound) = true := by decide +kernel
set_option maxRecDepth 100000 in
theorem pj_d99 : pj_c99.all (pj_okD cX7_look) = true := by decide +kernel
set_option maxRecDepth 100000 in
theorem pj_d100 : pj_c100.all (pj_okD cX7_count) = true := by decide +kernel
set_option maxRecDepth 100000 in
theorem pj_d101 : pj_c101.all (pj_okD cX7_hasLook) = true := by decide +kernel
set_option maxRecDepth 100000 in
theorem pj_d102 : pj_c102.all (pj_okD cX7_see) = true := by decide +kernel
set_option maxRecDepth 100000 in
theorem pj_d103 : pj_c103.all (pj_okD cX7_unsee) = true := by decide +kernel
set_option maxRecDepth 100000 in
theorem pj_d104 : pj_c104.all (pj_okD cX7_works) = true := by decide +kernel
set_option maxRecDepth 100000 in
theorem pj_d105 : pj_c105.all (pj_okD cX7_should) = true := by decide +kernel
set_option maxRecDepth 100000 in
theorem pj_d106 : pj_c106.all (pj_okD cX7_gives) = true := by decide +kernel
set_option maxRecDepth 100000 in
theorem pj_d107 : pj_c107.all (pj_okD cX7_evaluate) = true := by decide +kernel
set_option maxRecDepth 100000 in
theorem pj_d108 : pj_c108.all (pj_okD cX7_isSeen) = true := by decide +kernel
set_option maxRecDepth 100000 in
theorem pj_d109 : pj_c109.all (pj_okD cX7_stateNow) = true := by decide +kernel
set_option maxRecDepth 100000 in
theorem pj_d110 : pj_c110.all (pj_okD cX7_turns) = true := by decide +kernel
set_option maxRecDepth 100000 in
theorem pj_d111 : pj_c111.all (pj_okD cX7_tries) = true := by decide +kernel
set_option maxRecDepth 100000 in
theorem pj_d112 : pj_c112.all (pj_okD cX7_canBe) = true := by decide +kernel
set_option maxRecDepth 100000 in
theorem pj_d113 : pj_c113.all (pj_okD cX7_collects) = true := by decide +kernel
