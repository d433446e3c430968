set_option maxRecDepth 100000 in
theorem xgX2_image : xGd xmX2_image = true := by decide +kernel
set_option maxRecDepth 100000 in
theorem xgX2_keep : xGd xmX2_keep = true := by decide +kernel
set_option maxRecDepth 100000 in
theorem xgX2_fits : xGd xmX2_fits = true := by decide +kernel
set_option maxRecDepth 100000 in
theorem xgX2_extend : xGd xmX2_extend = true := by decide +kernel
set_option maxRecDepth 100000 in
theorem xgX2_list : xGd xmX2_list = true := by decide +kernel
set_option maxRecDepth 100000 in
theorem xgX2_keepsHands : xGd xmX2_keepsHands = true := by decide +kernel
set_option maxRecDepth 100000 in
theorem xgX2_ringLength : xGd xmX2_ringLength = true := by decide +kernel
set_option maxRecDepth 100000 in
theorem xgX2_period : xGd xmX2_period = true := by decide +kernel
set_option maxRecDepth 100000 in
theorem xgX4_init : xGd xmX4_init = true := by decide +kernel
set_option maxRecDepth 100000 in
theorem xgX4_number : xGd xmX4_number = true := by decide +kernel
set_option maxRecDepth 100000 in
theorem xgX4_leads : xGd xmX4_leads = true := by decide +kernel
set_option maxRecDepth 100000 in
theorem xgX4_insert : xGd xmX4_insert = true := by decide +kernel
set_option maxRecDepth 100000 in
theorem xgX4_mix : xGd xmX4_mix = true := by decide +kernel
set_option maxRecDepth 100000 in
theorem xgX4_slice : xGd xmX4_slice = true := by decide +kernel
set_option maxRecDepth 100000 in
theorem xgX5_init : xGd xmX5_init = true := by decide +kernel
set_option maxRecDepth 100000 in
theorem xgX5_within : xGd xmX5_within = true := by decide +kernel
set_option maxRecDepth 100000 in
theorem xgX5_forget : xGd xmX5_forget = true := by decide +kernel
set_option maxRecDepth 100000 in
theorem xgX5_point : xGd xmX5_point = true := by decide +kernel
set_option maxRecDepth 100000 in
theorem xgX5_clear : xGd xmX5_clear = true := by decide +kernel
set_option maxRecDepth 100000 in
theorem xgX5_stands : xGd xmX5_stands = true := by decide +kernel
set_option maxRecDepth 100000 in
theorem xgX5_flat : xGd xmX5_flat = true := by decide +kernel
set_option maxRecDepth 100000 in
theorem xgX5_corners : xGd xmX5_corners = true := by decide +kernel
set_option maxRecDepth 100000 in
theorem xgX5_edges : xGd xmX5_edges = true := by decide +kernel
set_option maxRecDepth 100000 in
theorem xgX5_faces : xGd xmX5_faces = true := by decide +kernel
set_option maxRecDepth 100000 in
theorem xgX5_size : xGd xmX5_size = true := by decide +kernel
set_option maxRecDepth 100000 in
theorem xgX5_at : xGd xmX5_at = true := by decide +kernel
set_option maxRecDepth 100000 in
theorem xgX5_normal : xGd xmX5_normal = true := by decide +kernel
set_option maxRecDepth 100000 in
theorem xgX5_volume : xGd xmX5_volume = true := by decide +kernel
set_option maxRecDepth 100000 in
theorem xgX5_isAxis : xGd xmX5_isAxis = true := by decide +kernel
set_option maxRecDepth 100000 in
theorem xgX5_isPart : xGd xmX5_isPart = true := by decide +kernel
set_option maxRecDepth 100000 in
theorem xgX5_fraction : xGd xmX5_fraction = true := by decide +kernel
set_option maxRecDepth 100000 in
theorem xgX5_middle : xGd xmX5_middle = true := by decide +kernel
set_option maxRecDepth 100000 in
theorem xgX5_where : xGd xmX5_where = true := by decide +kernel
set_option maxRecDepth 100000 in
theorem xgX5_isDirection : xGd xmX5_isDirection = true := by decide +kernel
set_option maxRecDepth 100000 in
theorem xgX5_cut : xGd xmX5_cut = true := by decide +kernel
set_option maxRecDepth 100000 in
theorem xgX5_cutAt : xGd xmX5_cutAt = true := by decide +kernel
set_option maxRecDepth 100000 in
theorem xgX5_shadow : xGd xmX5_shadow = true := by decide +kernel
