def pj_okD (b : ByteArray) (q : pj_E) : Bool := decide (decode b q.1 = .ok (q.2.1, q.2.2.1))
set_option maxRecDepth 100000 in
theorem pj_d0 : pj_c0.all (pj_okD cX0_init) = true := by decide +kernel
set_option maxRecDepth 100000 in
theorem pj_d1 : pj_c1.all (pj_okD cX0_forget) = true := by decide +kernel
set_option maxRecDepth 100000 in
theorem pj_d2 : pj_c2.all (pj_okD cX0_prepare) = true := by decide +kernel
set_option maxRecDepth 100000 in
theorem pj_d3 : pj_c3.all (pj_okD cX0_numbersDue) = true := by decide +kernel
set_option maxRecDepth 100000 in
theorem pj_d4 : pj_c4.all (pj_okD cX0_doesAgree) = true := by decide +kernel
set_option maxRecDepth 100000 in
theorem pj_d5 : pj_c5.all (pj_okD cX0_canBe) = true := by decide +kernel
set_option maxRecDepth 100000 in
theorem pj_d6 : pj_c6.all (pj_okD cX0_findStories) = true := by decide +kernel
set_option maxRecDepth 100000 in
theorem pj_d7 : pj_c7.all (pj_okD cX0_findQuarrels) = true := by decide +kernel
set_option maxRecDepth 100000 in
theorem pj_d8 : pj_c8.all (pj_okD cX0_holdsOne) = true := by decide +kernel
set_option maxRecDepth 100000 in
theorem pj_d9 : pj_c9.all (pj_okD cX0_learn) = true := by decide +kernel
set_option maxRecDepth 100000 in
theorem pj_d10 : pj_c10.all (pj_okD cX0_worthOf) = true := by decide +kernel
set_option maxRecDepth 100000 in
theorem pj_d11 : pj_c11.all (pj_okD cX0_tells) = true := by decide +kernel
set_option maxRecDepth 100000 in
theorem pj_d12 : pj_c12.all (pj_okD cX1_init) = true := by decide +kernel
set_option maxRecDepth 100000 in
theorem pj_d13 : pj_c13.all (pj_okD cX1_add) = true := by decide +kernel
set_option maxRecDepth 100000 in
theorem pj_d14 : pj_c14.all (pj_okD cX1_dropLatest) = true := by decide +kernel
set_option maxRecDepth 100000 in
theorem pj_d15 : pj_c15.all (pj_okD cX1_keepTicks) = true := by decide +kernel
set_option maxRecDepth 100000 in
theorem pj_d16 : pj_c16.all (pj_okD cX2_init) = true := by decide +kernel
set_option maxRecDepth 100000 in
theorem pj_d17 : pj_c17.all (pj_okD cX2_enter) = true := by decide +kernel
set_option maxRecDepth 100000 in
theorem pj_d18 : pj_c18.all (pj_okD cX2_numbersOwed) = true := by decide +kernel
set_option maxRecDepth 100000 in
theorem pj_d19 : pj_c19.all (pj_okD cX2_reachedFrom) = true := by decide +kernel
set_option maxRecDepth 100000 in
theorem pj_d20 : pj_c20.all (pj_okD cX2_walk) = true := by decide +kernel
set_option maxRecDepth 100000 in
theorem pj_d21 : pj_c21.all (pj_okD cX2_arrive) = true := by decide +kernel
set_option maxRecDepth 100000 in
theorem pj_d22 : pj_c22.all (pj_okD cX2_gives) = true := by decide +kernel
set_option maxRecDepth 100000 in
theorem pj_d23 : pj_c23.all (pj_okD cX2_makes) = true := by decide +kernel
set_option maxRecDepth 100000 in
theorem pj_d24 : pj_c24.all (pj_okD cX2_runSound) = true := by decide +kernel
set_option maxRecDepth 100000 in
theorem pj_d25 : pj_c25.all (pj_okD cX3_init) = true := by decide +kernel
set_option maxRecDepth 100000 in
theorem pj_d26 : pj_c26.all (pj_okD cX3_add) = true := by decide +kernel
set_option maxRecDepth 100000 in
theorem pj_d27 : pj_c27.all (pj_okD cX3_hasWays) = true := by decide +kernel
set_option maxRecDepth 100000 in
theorem pj_d28 : pj_c28.all (pj_okD cX3_layWork) = true := by decide +kernel
set_option maxRecDepth 100000 in
theorem pj_d29 : pj_c29.all (pj_okD cX3_workOn) = true := by decide +kernel
set_option maxRecDepth 100000 in
theorem pj_d30 : pj_c30.all (pj_okD cX3_weightOf) = true := by decide +kernel
set_option maxRecDepth 100000 in
theorem pj_d31 : pj_c31.all (pj_okD cX4_init) = true := by decide +kernel
set_option maxRecDepth 100000 in
theorem pj_d32 : pj_c32.all (pj_okD cX4_prepare) = true := by decide +kernel
set_option maxRecDepth 100000 in
theorem pj_d33 : pj_c33.all (pj_okD cX4_needsOf) = true := by decide +kernel
set_option maxRecDepth 100000 in
theorem pj_d34 : pj_c34.all (pj_okD cX4_readBy) = true := by decide +kernel
set_option maxRecDepth 100000 in
theorem pj_d35 : pj_c35.all (pj_okD cX4_takeStory) = true := by decide +kernel
set_option maxRecDepth 100000 in
theorem pj_d36 : pj_c36.all (pj_okD cX4_takeSound) = true := by decide +kernel
