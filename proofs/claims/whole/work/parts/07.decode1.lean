set_option maxRecDepth 100000 in
theorem pj_d37 : pj_c37.all (pj_okD cX4_search) = true := by decide +kernel
set_option maxRecDepth 100000 in
theorem pj_d38 : pj_c38.all (pj_okD cX4_goesWell) = true := by decide +kernel
set_option maxRecDepth 100000 in
theorem pj_d39 : pj_c39.all (pj_okD cX4_enterTick) = true := by decide +kernel
set_option maxRecDepth 100000 in
theorem pj_d40 : pj_c40.all (pj_okD cX4_gather) = true := by decide +kernel
set_option maxRecDepth 100000 in
theorem pj_d41 : pj_c41.all (pj_okD cX5_init) = true := by decide +kernel
set_option maxRecDepth 100000 in
theorem pj_d42 : pj_c42.all (pj_okD cX5_add) = true := by decide +kernel
set_option maxRecDepth 100000 in
theorem pj_d43 : pj_c43.all (pj_okD cX5_keepTicks) = true := by decide +kernel
set_option maxRecDepth 100000 in
theorem pj_d44 : pj_c44.all (pj_okD cX6_init) = true := by decide +kernel
set_option maxRecDepth 100000 in
theorem pj_d45 : pj_c45.all (pj_okD cX6_wire) = true := by decide +kernel
set_option maxRecDepth 100000 in
theorem pj_d46 : pj_c46.all (pj_okD cX6_part) = true := by decide +kernel
set_option maxRecDepth 100000 in
theorem pj_d47 : pj_c47.all (pj_okD cX6_table) = true := by decide +kernel
set_option maxRecDepth 100000 in
theorem pj_d48 : pj_c48.all (pj_okD cX6_ways) = true := by decide +kernel
set_option maxRecDepth 100000 in
theorem pj_d49 : pj_c49.all (pj_okD cX6_odds) = true := by decide +kernel
set_option maxRecDepth 100000 in
theorem pj_d50 : pj_c50.all (pj_okD cX6_price) = true := by decide +kernel
set_option maxRecDepth 100000 in
theorem pj_d51 : pj_c51.all (pj_okD cX6_ticks) = true := by decide +kernel
set_option maxRecDepth 100000 in
theorem pj_d52 : pj_c52.all (pj_okD cX6_set) = true := by decide +kernel
set_option maxRecDepth 100000 in
theorem pj_d53 : pj_c53.all (pj_okD cX6_sound) = true := by decide +kernel
set_option maxRecDepth 100000 in
theorem pj_d54 : pj_c54.all (pj_okD cX6_look) = true := by decide +kernel
set_option maxRecDepth 100000 in
theorem pj_d55 : pj_c55.all (pj_okD cX6_count) = true := by decide +kernel
set_option maxRecDepth 100000 in
theorem pj_d56 : pj_c56.all (pj_okD cX6_see) = true := by decide +kernel
set_option maxRecDepth 100000 in
theorem pj_d57 : pj_c57.all (pj_okD cX6_unsee) = true := by decide +kernel
set_option maxRecDepth 100000 in
theorem pj_d58 : pj_c58.all (pj_okD cX6_due) = true := by decide +kernel
set_option maxRecDepth 100000 in
theorem pj_d59 : pj_c59.all (pj_okD cX6_stories) = true := by decide +kernel
set_option maxRecDepth 100000 in
theorem pj_d60 : pj_c60.all (pj_okD cX6_story) = true := by decide +kernel
set_option maxRecDepth 100000 in
theorem pj_d61 : pj_c61.all (pj_okD cX6_agrees) = true := by decide +kernel
set_option maxRecDepth 100000 in
theorem pj_d62 : pj_c62.all (pj_okD cX6_weigh) = true := by decide +kernel
set_option maxRecDepth 100000 in
theorem pj_d63 : pj_c63.all (pj_okD cX6_likely) = true := by decide +kernel
set_option maxRecDepth 100000 in
theorem pj_d64 : pj_c64.all (pj_okD cX6_chance) = true := by decide +kernel
set_option maxRecDepth 100000 in
theorem pj_d65 : pj_c65.all (pj_okD cX6_quarrels) = true := by decide +kernel
set_option maxRecDepth 100000 in
theorem pj_d66 : pj_c66.all (pj_okD cX6_quarrel) = true := by decide +kernel
set_option maxRecDepth 100000 in
theorem pj_d67 : pj_c67.all (pj_okD cX6_judge) = true := by decide +kernel
set_option maxRecDepth 100000 in
theorem pj_d68 : pj_c68.all (pj_okD cX6_values) = true := by decide +kernel
set_option maxRecDepth 100000 in
theorem pj_d69 : pj_c69.all (pj_okD cX6_worth) = true := by decide +kernel
set_option maxRecDepth 100000 in
theorem pj_d70 : pj_c70.all (pj_okD cX6_next) = true := by decide +kernel
set_option maxRecDepth 100000 in
theorem pj_d71 : pj_c71.all (pj_okD cX6_apart) = true := by decide +kernel
set_option maxRecDepth 100000 in
theorem pj_d72 : pj_c72.all (pj_okD cX6_lay) = true := by decide +kernel
set_option maxRecDepth 100000 in
theorem pj_d73 : pj_c73.all (pj_okD cX6_tear) = true := by decide +kernel
set_option maxRecDepth 100000 in
theorem pj_d74 : pj_c74.all (pj_okD cX6_row) = true := by decide +kernel
set_option maxRecDepth 100000 in
theorem pj_d75 : pj_c75.all (pj_okD cX6_copy) = true := by decide +kernel
