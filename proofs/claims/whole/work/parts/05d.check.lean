set_option maxRecDepth 100000 in
theorem xgX6_where : xGd xmX6_where = true := by decide +kernel
set_option maxRecDepth 100000 in
theorem xgX6_isDirection : xGd xmX6_isDirection = true := by decide +kernel
set_option maxRecDepth 100000 in
theorem xgX6_lies : xGd xmX6_lies = true := by decide +kernel
set_option maxRecDepth 100000 in
theorem xgX6_compare : xGd xmX6_compare = true := by decide +kernel
set_option maxRecDepth 100000 in
theorem xgX6_swap : xGd xmX6_swap = true := by decide +kernel
set_option maxRecDepth 100000 in
theorem xgX6_addCut : xGd xmX6_addCut = true := by decide +kernel
set_option maxRecDepth 100000 in
theorem xgX6_cut : xGd xmX6_cut = true := by decide +kernel
set_option maxRecDepth 100000 in
theorem xgX6_cutAt : xGd xmX6_cutAt = true := by decide +kernel
set_option maxRecDepth 100000 in
theorem xgX6_side : xGd xmX6_side = true := by decide +kernel
set_option maxRecDepth 100000 in
theorem xgX6_isSame : xGd xmX6_isSame = true := by decide +kernel
set_option maxRecDepth 100000 in
theorem xgX6_isBetween : xGd xmX6_isBetween = true := by decide +kernel
set_option maxRecDepth 100000 in
theorem xgX6_isInTriangle : xGd xmX6_isInTriangle = true := by decide +kernel
set_option maxRecDepth 100000 in
theorem xgX6_stands : xGd xmX6_stands = true := by decide +kernel
set_option maxRecDepth 100000 in
theorem xgX6_shadow : xGd xmX6_shadow = true := by decide +kernel
set_option maxRecDepth 100000 in
theorem xgX6_far : xGd xmX6_far = true := by decide +kernel
set_option maxRecDepth 100000 in
theorem xgX6_way : xGd xmX6_way = true := by decide +kernel
set_option maxRecDepth 100000 in
theorem xgX6_apart : xGd xmX6_apart = true := by decide +kernel
set_option maxRecDepth 100000 in
theorem xgX6_sense : xGd xmX6_sense = true := by decide +kernel
set_option maxRecDepth 100000 in
theorem xgX6_findBase : xGd xmX6_findBase = true := by decide +kernel
set_option maxRecDepth 100000 in
theorem xgX6_fits : xGd xmX6_fits = true := by decide +kernel
set_option maxRecDepth 100000 in
theorem xgX6_imageOf : xGd xmX6_imageOf = true := by decide +kernel
set_option maxRecDepth 100000 in
theorem xgX6_addTurn : xGd xmX6_addTurn = true := by decide +kernel
set_option maxRecDepth 100000 in
theorem xgX6_tryGoals : xGd xmX6_tryGoals = true := by decide +kernel
set_option maxRecDepth 100000 in
theorem xgX6_isEarlier : xGd xmX6_isEarlier = true := by decide +kernel
set_option maxRecDepth 100000 in
theorem xgX6_buildTurns : xGd xmX6_buildTurns = true := by decide +kernel
set_option maxRecDepth 100000 in
theorem xgX6_symmetries : xGd xmX6_symmetries = true := by decide +kernel
set_option maxRecDepth 100000 in
theorem xgX6_noTurn : xGd xmX6_noTurn = true := by decide +kernel
set_option maxRecDepth 100000 in
theorem xgX6_symmetry : xGd xmX6_symmetry = true := by decide +kernel
set_option maxRecDepth 100000 in
theorem xgX6_turn : xGd xmX6_turn = true := by decide +kernel
set_option maxRecDepth 100000 in
theorem xgX6_order : xGd xmX6_order = true := by decide +kernel
set_option maxRecDepth 100000 in
theorem xgX6_imageBits : xGd xmX6_imageBits = true := by decide +kernel
set_option maxRecDepth 100000 in
theorem xgX6_isTaken : xGd xmX6_isTaken = true := by decide +kernel
set_option maxRecDepth 100000 in
theorem xgX6_regular : xGd xmX6_regular = true := by decide +kernel
