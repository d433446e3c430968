set_option maxRecDepth 100000 in
theorem xgX0_init : xGd xmX0_init = true := by decide +kernel
set_option maxRecDepth 100000 in
theorem xgX0_has : xGd xmX0_has = true := by decide +kernel
set_option maxRecDepth 100000 in
theorem xgX5_isPoint : xGd xmX5_isPoint = true := by decide +kernel
set_option maxRecDepth 100000 in
theorem xgX0_add : xGd xmX0_add = true := by decide +kernel
set_option maxRecDepth 100000 in
theorem xgX0_number : xGd xmX0_number = true := by decide +kernel
set_option maxRecDepth 100000 in
theorem xgX0_sum : xGd xmX0_sum = true := by decide +kernel
set_option maxRecDepth 100000 in
theorem xgX0_swing : xGd xmX0_swing = true := by decide +kernel
set_option maxRecDepth 100000 in
theorem xgX0_spread : xGd xmX0_spread = true := by decide +kernel
set_option maxRecDepth 100000 in
theorem xgX0_distance : xGd xmX0_distance = true := by decide +kernel
set_option maxRecDepth 100000 in
theorem xgX0_box : xGd xmX0_box = true := by decide +kernel
set_option maxRecDepth 100000 in
theorem xgX3_init : xGd xmX3_init = true := by decide +kernel
set_option maxRecDepth 100000 in
theorem xgX1_init : xGd xmX1_init = true := by decide +kernel
set_option maxRecDepth 100000 in
theorem xgX1_hasFace : xGd xmX1_hasFace = true := by decide +kernel
set_option maxRecDepth 100000 in
theorem xgX1_isCorner : xGd xmX1_isCorner = true := by decide +kernel
set_option maxRecDepth 100000 in
theorem xgX1_isKnown : xGd xmX1_isKnown = true := by decide +kernel
set_option maxRecDepth 100000 in
theorem xgX5_divisor : xGd xmX5_divisor = true := by decide +kernel
set_option maxRecDepth 100000 in
theorem xgX3_look : xGd xmX3_look = true := by decide +kernel
set_option maxRecDepth 100000 in
theorem xgX3_sidesTaken : xGd xmX3_sidesTaken = true := by decide +kernel
set_option maxRecDepth 100000 in
theorem xgX3_turnOutward : xGd xmX3_turnOutward = true := by decide +kernel
set_option maxRecDepth 100000 in
theorem xgX3_face : xGd xmX3_face = true := by decide +kernel
set_option maxRecDepth 100000 in
theorem xgJ6_numberOfTrailingZeros_0f7a4 : xGd xmJ6_numberOfTrailingZeros_0f7a4 = true := by decide +kernel
set_option maxRecDepth 100000 in
theorem xgX3_rim : xGd xmX3_rim = true := by decide +kernel
set_option maxRecDepth 100000 in
theorem xgX3_following : xGd xmX3_following = true := by decide +kernel
set_option maxRecDepth 100000 in
theorem xgX3_trace : xGd xmX3_trace = true := by decide +kernel
set_option maxRecDepth 100000 in
theorem xgX3_leads : xGd xmX3_leads = true := by decide +kernel
set_option maxRecDepth 100000 in
theorem xgX1_settle : xGd xmX1_settle = true := by decide +kernel
set_option maxRecDepth 100000 in
theorem xgX1_tryFace : xGd xmX1_tryFace = true := by decide +kernel
set_option maxRecDepth 100000 in
theorem xgX1_join : xGd xmX1_join = true := by decide +kernel
set_option maxRecDepth 100000 in
theorem xgX1_weighOne : xGd xmX1_weighOne = true := by decide +kernel
set_option maxRecDepth 100000 in
theorem xgX1_weigh : xGd xmX1_weigh = true := by decide +kernel
set_option maxRecDepth 100000 in
theorem xgX1_build : xGd xmX1_build = true := by decide +kernel
set_option maxRecDepth 100000 in
theorem xgX1_place : xGd xmX1_place = true := by decide +kernel
set_option maxRecDepth 100000 in
theorem xgX1_greatest : xGd xmX1_greatest = true := by decide +kernel
set_option maxRecDepth 100000 in
theorem xgX1_cornersAt : xGd xmX1_cornersAt = true := by decide +kernel
set_option maxRecDepth 100000 in
theorem xgX1_besideAny : xGd xmX1_besideAny = true := by decide +kernel
set_option maxRecDepth 100000 in
theorem xgX1_steps : xGd xmX1_steps = true := by decide +kernel
set_option maxRecDepth 100000 in
theorem xgX2_init : xGd xmX2_init = true := by decide +kernel
