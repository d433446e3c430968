set_option maxRecDepth 100000 in
theorem xgX5_far : xGd xmX5_far = true := by decide +kernel
set_option maxRecDepth 100000 in
theorem xgX5_way : xGd xmX5_way = true := by decide +kernel
set_option maxRecDepth 100000 in
theorem xgX5_listed : xGd xmX5_listed = true := by decide +kernel
set_option maxRecDepth 100000 in
theorem xgX5_symmetries : xGd xmX5_symmetries = true := by decide +kernel
set_option maxRecDepth 100000 in
theorem xgX5_isSymmetry : xGd xmX5_isSymmetry = true := by decide +kernel
set_option maxRecDepth 100000 in
theorem xgX5_symmetry : xGd xmX5_symmetry = true := by decide +kernel
set_option maxRecDepth 100000 in
theorem xgX5_turn : xGd xmX5_turn = true := by decide +kernel
set_option maxRecDepth 100000 in
theorem xgX5_order : xGd xmX5_order = true := by decide +kernel
set_option maxRecDepth 100000 in
theorem xgX5_regular : xGd xmX5_regular = true := by decide +kernel
set_option maxRecDepth 100000 in
theorem xgX6_init : xGd xmX6_init = true := by decide +kernel
set_option maxRecDepth 100000 in
theorem xgX6_in : xGd xmX6_in = true := by decide +kernel
set_option maxRecDepth 100000 in
theorem xgX6_point : xGd xmX6_point = true := by decide +kernel
set_option maxRecDepth 100000 in
theorem xgX6_clear : xGd xmX6_clear = true := by decide +kernel
set_option maxRecDepth 100000 in
theorem xgX6_cross : xGd xmX6_cross = true := by decide +kernel
set_option maxRecDepth 100000 in
theorem xgX6_height : xGd xmX6_height = true := by decide +kernel
set_option maxRecDepth 100000 in
theorem xgX6_divisor : xGd xmX6_divisor = true := by decide +kernel
set_option maxRecDepth 100000 in
theorem xgX6_tryPlane : xGd xmX6_tryPlane = true := by decide +kernel
set_option maxRecDepth 100000 in
theorem xgX6_facesOf : xGd xmX6_facesOf = true := by decide +kernel
set_option maxRecDepth 100000 in
theorem xgX6_isNext : xGd xmX6_isNext = true := by decide +kernel
set_option maxRecDepth 100000 in
theorem xgX6_layRound : xGd xmX6_layRound = true := by decide +kernel
set_option maxRecDepth 100000 in
theorem xgX6_isBefore : xGd xmX6_isBefore = true := by decide +kernel
set_option maxRecDepth 100000 in
theorem xgX6_build : xGd xmX6_build = true := by decide +kernel
set_option maxRecDepth 100000 in
theorem xgX6_noSolid : xGd xmX6_noSolid = true := by decide +kernel
set_option maxRecDepth 100000 in
theorem xgX6_flat : xGd xmX6_flat = true := by decide +kernel
set_option maxRecDepth 100000 in
theorem xgX6_isCorner : xGd xmX6_isCorner = true := by decide +kernel
set_option maxRecDepth 100000 in
theorem xgX6_isEdge : xGd xmX6_isEdge = true := by decide +kernel
set_option maxRecDepth 100000 in
theorem xgX6_corners : xGd xmX6_corners = true := by decide +kernel
set_option maxRecDepth 100000 in
theorem xgX6_edges : xGd xmX6_edges = true := by decide +kernel
set_option maxRecDepth 100000 in
theorem xgX6_faces : xGd xmX6_faces = true := by decide +kernel
set_option maxRecDepth 100000 in
theorem xgX6_size : xGd xmX6_size = true := by decide +kernel
set_option maxRecDepth 100000 in
theorem xgX6_at : xGd xmX6_at = true := by decide +kernel
set_option maxRecDepth 100000 in
theorem xgX6_normal : xGd xmX6_normal = true := by decide +kernel
set_option maxRecDepth 100000 in
theorem xgX6_tetrahedron : xGd xmX6_tetrahedron = true := by decide +kernel
set_option maxRecDepth 100000 in
theorem xgX6_weigh : xGd xmX6_weigh = true := by decide +kernel
set_option maxRecDepth 100000 in
theorem xgX6_volume : xGd xmX6_volume = true := by decide +kernel
set_option maxRecDepth 100000 in
theorem xgX6_part : xGd xmX6_part = true := by decide +kernel
set_option maxRecDepth 100000 in
theorem xgX6_middle : xGd xmX6_middle = true := by decide +kernel
