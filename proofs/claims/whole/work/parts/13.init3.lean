/-- the reference's cell -/
abbrev xMo (pts bu tb fl co fa ax ay az : Int32) (six sx sy sz : Int64) (cm tu : Int32) : xE := .inr (6, [.int pts, .ref 65, .ref 66, .ref 67, .int bu, .int tb, .int fl, .int co, .int fa, .ref 68, .ref 69, .ref 70, .ref 71, .ref 72, .ref 73, .ref 74, .int ax, .int ay, .int az, .ref 75, .long six, .long sx, .long sy, .long sz, .int cm, .ref 76, .ref 77, .ref 78, .ref 79, .ref 80, .ref 81, .int tu, .ref 82, .ref 83, .ref 84, .ref 85])
abbrev xIA (k : Nat) (f : Nat → Int32) : xE := .inl (k, .inl f)
abbrev xLA (k : Nat) (f : Nat → Int64) : xE := .inl (k, .inr (.inl f))
/-- the reference's cells as its constructor leaves them -/
def xIm (h : xHp) : Prop := h 64 = some (xMo 0 0 0 0 0 0 0 0 0 0 0 0 0 (-1) 0) ∧ h 65 = some (xIA 14 fun _ => 0) ∧ h 66 = some (xIA 14 fun _ => 0) ∧ h 67 = some (xIA 14 fun _ => 0) ∧ h 68 = some (xIA 24 fun _ => 0) ∧ h 69 = some (xIA 24 fun _ => 0) ∧ h 70 = some (xIA 336 fun _ => 0) ∧ h 71 = some (xIA 24 fun _ => 0) ∧ h 72 = some (xIA 24 fun _ => 0) ∧ h 73 = some (xIA 24 fun _ => 0) ∧ h 74 = some (xIA 24 fun _ => 0) ∧ h 75 = some (xIA 24 fun _ => 0) ∧ h 76 = some (xLA 64 fun _ => 0) ∧ h 77 = some (xLA 64 fun _ => 0) ∧ h 78 = some (xLA 64 fun _ => 0) ∧ h 79 = some (xLA 64 fun _ => 0) ∧ h 80 = some (xLA 14 fun _ => 0) ∧ h 81 = some (xLA 14 fun _ => 0) ∧ h 82 = some (xIA 896 fun _ => 0) ∧ h 83 = some (xIA 64 fun _ => 0) ∧ h 84 = some (xIA 4 fun _ => 0) ∧ h 85 = some (xIA 4 fun _ => 0)
set_option maxRecDepth 10000 in
theorem c_Model_init (h : xHp) : xCall xmX6_init 100 21 1798 [.ref 64] 65 (xup h 64 (.inr (6, (List.range 36).map (fun j => defaultValue (xty 6 j))))) (fun r n' h' => r = none ∧ n' = 86 ∧ xIm h' ∧ ∀ j, j < 64 → h' j = h j) := by
  have hq : xup h 64 (.inr (6, (List.range 36).map (fun j => defaultValue (xty 6 j)))) 64 = some (.inr (6, [.int 0, .null, .null, .null, .int 0, .int 0, .int 0, .int 0, .int 0, .null, .null, .null, .null, .null, .null, .null, .int 0, .int 0, .int 0, .null, .long 0, .long 0, .long 0, .long 0, .int 0, .null, .null, .null, .null, .null, .null, .int 0, .null, .null, .null, .null])) := xup_s
  have ho : ∀ j, j < 64 → xup h 64 (.inr (6, (List.range 36).map (fun j => defaultValue (xty 6 j)))) j = h j := fun j hj => xup_n (by omega)
  generalize xup h 64 (.inr (6, (List.range 36).map (fun j => defaultValue (xty 6 j)))) = h1 at hq ho ⊢
  refine xCall.of xgX6_init rfl ?_
  repeat (first | refine tt_op rfl rfl ?_ | refine tt_get rfl (by first | assumption | rfl) (by rfl) ?_ | refine tt_obj rfl ?_ | refine tt_iald rfl (by assumption) (by assumption) ?_ | refine tt_lald rfl (by assumption) (by assumption) ?_)
  refine tt_newI (N := 14) rfl (by decide) (by decide) (by decide) (Nat.le_of_ble_eq_true rfl) (Nat.le_of_ble_eq_true rfl) ?_
  refine tt_put rfl (by rw [xup_n (by omega)]; exact hq) rfl (by decide) (by rfl) (by rfl) rfl ?_
  repeat (first | refine tt_op rfl rfl ?_ | refine tt_get rfl (by first | assumption | rfl) (by rfl) ?_ | refine tt_obj rfl ?_ | refine tt_iald rfl (by assumption) (by assumption) ?_ | refine tt_lald rfl (by assumption) (by assumption) ?_)
  refine tt_newI (N := 14) rfl (by decide) (by decide) (by decide) (Nat.le_of_ble_eq_true rfl) (Nat.le_of_ble_eq_true rfl) ?_
  refine tt_put rfl (by rw [xup_n (by omega)]; exact xup_s) rfl (by decide) (by rfl) (by rfl) rfl ?_
  repeat (first | refine tt_op rfl rfl ?_ | refine tt_get rfl (by first | assumption | rfl) (by rfl) ?_ | refine tt_obj rfl ?_ | refine tt_iald rfl (by assumption) (by assumption) ?_ | refine tt_lald rfl (by assumption) (by assumption) ?_)
  refine tt_newI (N := 14) rfl (by decide) (by decide) (by decide) (Nat.le_of_ble_eq_true rfl) (Nat.le_of_ble_eq_true rfl) ?_
  refine tt_put rfl (by rw [xup_n (by omega)]; exact xup_s) rfl (by decide) (by rfl) (by rfl) rfl ?_
  repeat (first | refine tt_op rfl rfl ?_ | refine tt_get rfl (by first | assumption | rfl) (by rfl) ?_ | refine tt_obj rfl ?_ | refine tt_iald rfl (by assumption) (by assumption) ?_ | refine tt_lald rfl (by assumption) (by assumption) ?_)
  refine tt_newI (N := 24) rfl (by decide) (by decide) (by decide) (Nat.le_of_ble_eq_true rfl) (Nat.le_of_ble_eq_true rfl) ?_
  refine tt_put rfl (by rw [xup_n (by omega)]; exact xup_s) rfl (by decide) (by rfl) (by rfl) rfl ?_
  repeat (first | refine tt_op rfl rfl ?_ | refine tt_get rfl (by first | assumption | rfl) (by rfl) ?_ | refine tt_obj rfl ?_ | refine tt_iald rfl (by assumption) (by assumption) ?_ | refine tt_lald rfl (by assumption) (by assumption) ?_)
  refine tt_newI (N := 24) rfl (by decide) (by decide) (by decide) (Nat.le_of_ble_eq_true rfl) (Nat.le_of_ble_eq_true rfl) ?_
  refine tt_put rfl (by rw [xup_n (by omega)]; exact xup_s) rfl (by decide) (by rfl) (by rfl) rfl ?_
  repeat (first | refine tt_op rfl rfl ?_ | refine tt_get rfl (by first | assumption | rfl) (by rfl) ?_ | refine tt_obj rfl ?_ | refine tt_iald rfl (by assumption) (by assumption) ?_ | refine tt_lald rfl (by assumption) (by assumption) ?_)
  refine tt_newI (N := 336) rfl (by decide) (by decide) (by decide) (Nat.le_of_ble_eq_true rfl) (Nat.le_of_ble_eq_true rfl) ?_
  refine tt_put rfl (by rw [xup_n (by omega)]; exact xup_s) rfl (by decide) (by rfl) (by rfl) rfl ?_
  repeat (first | refine tt_op rfl rfl ?_ | refine tt_get rfl (by first | assumption | rfl) (by rfl) ?_ | refine tt_obj rfl ?_ | refine tt_iald rfl (by assumption) (by assumption) ?_ | refine tt_lald rfl (by assumption) (by assumption) ?_)
  refine tt_newI (N := 24) rfl (by decide) (by decide) (by decide) (Nat.le_of_ble_eq_true rfl) (Nat.le_of_ble_eq_true rfl) ?_
  refine tt_put rfl (by rw [xup_n (by omega)]; exact xup_s) rfl (by decide) (by rfl) (by rfl) rfl ?_
  repeat (first | refine tt_op rfl rfl ?_ | refine tt_get rfl (by first | assumption | rfl) (by rfl) ?_ | refine tt_obj rfl ?_ | refine tt_iald rfl (by assumption) (by assumption) ?_ | refine tt_lald rfl (by assumption) (by assumption) ?_)
  refine tt_newI (N := 24) rfl (by decide) (by decide) (by decide) (Nat.le_of_ble_eq_true rfl) (Nat.le_of_ble_eq_true rfl) ?_
  refine tt_put rfl (by rw [xup_n (by omega)]; exact xup_s) rfl (by decide) (by rfl) (by rfl) rfl ?_
  repeat (first | refine tt_op rfl rfl ?_ | refine tt_get rfl (by first | assumption | rfl) (by rfl) ?_ | refine tt_obj rfl ?_ | refine tt_iald rfl (by assumption) (by assumption) ?_ | refine tt_lald rfl (by assumption) (by assumption) ?_)
  refine tt_newI (N := 24) rfl (by decide) (by decide) (by decide) (Nat.le_of_ble_eq_true rfl) (Nat.le_of_ble_eq_true rfl) ?_
  refine tt_put rfl (by rw [xup_n (by omega)]; exact xup_s) rfl (by decide) (by rfl) (by rfl) rfl ?_
  repeat (first | refine tt_op rfl rfl ?_ | refine tt_get rfl (by first | assumption | rfl) (by rfl) ?_ | refine tt_obj rfl ?_ | refine tt_iald rfl (by assumption) (by assumption) ?_ | refine tt_lald rfl (by assumption) (by assumption) ?_)
  refine tt_newI (N := 24) rfl (by decide) (by decide) (by decide) (Nat.le_of_ble_eq_true rfl) (Nat.le_of_ble_eq_true rfl) ?_
  refine tt_put rfl (by rw [xup_n (by omega)]; exact xup_s) rfl (by decide) (by rfl) (by rfl) rfl ?_
  repeat (first | refine tt_op rfl rfl ?_ | refine tt_get rfl (by first | assumption | rfl) (by rfl) ?_ | refine tt_obj rfl ?_ | refine tt_iald rfl (by assumption) (by assumption) ?_ | refine tt_lald rfl (by assumption) (by assumption) ?_)
  refine tt_newI (N := 24) rfl (by decide) (by decide) (by decide) (Nat.le_of_ble_eq_true rfl) (Nat.le_of_ble_eq_true rfl) ?_
  refine tt_put rfl (by rw [xup_n (by omega)]; exact xup_s) rfl (by decide) (by rfl) (by rfl) rfl ?_
  repeat (first | refine tt_op rfl rfl ?_ | refine tt_get rfl (by first | assumption | rfl) (by rfl) ?_ | refine tt_obj rfl ?_ | refine tt_iald rfl (by assumption) (by assumption) ?_ | refine tt_lald rfl (by assumption) (by assumption) ?_)
  refine tt_put rfl (xup_s) rfl (by decide) (by rfl) (by rfl) rfl ?_
  repeat (first | refine tt_op rfl rfl ?_ | refine tt_get rfl (by first | assumption | rfl) (by rfl) ?_ | refine tt_obj rfl ?_ | refine tt_iald rfl (by assumption) (by assumption) ?_ | refine tt_lald rfl (by assumption) (by assumption) ?_)
  refine tt_newL (N := 64) rfl (by decide) (by decide) (by decide) (Nat.le_of_ble_eq_true rfl) (Nat.le_of_ble_eq_true rfl) ?_
  refine tt_put rfl (by rw [xup_n (by omega)]; exact xup_s) rfl (by decide) (by rfl) (by rfl) rfl ?_
  repeat (first | refine tt_op rfl rfl ?_ | refine tt_get rfl (by first | assumption | rfl) (by rfl) ?_ | refine tt_obj rfl ?_ | refine tt_iald rfl (by assumption) (by assumption) ?_ | refine tt_lald rfl (by assumption) (by assumption) ?_)
  refine tt_newL (N := 64) rfl (by decide) (by decide) (by decide) (Nat.le_of_ble_eq_true rfl) (Nat.le_of_ble_eq_true rfl) ?_
  refine tt_put rfl (by rw [xup_n (by omega)]; exact xup_s) rfl (by decide) (by rfl) (by rfl) rfl ?_
  repeat (first | refine tt_op rfl rfl ?_ | refine tt_get rfl (by first | assumption | rfl) (by rfl) ?_ | refine tt_obj rfl ?_ | refine tt_iald rfl (by assumption) (by assumption) ?_ | refine tt_lald rfl (by assumption) (by assumption) ?_)
  refine tt_newL (N := 64) rfl (by decide) (by decide) (by decide) (Nat.le_of_ble_eq_true rfl) (Nat.le_of_ble_eq_true rfl) ?_
  refine tt_put rfl (by rw [xup_n (by omega)]; exact xup_s) rfl (by decide) (by rfl) (by rfl) rfl ?_
  repeat (first | refine tt_op rfl rfl ?_ | refine tt_get rfl (by first | assumption | rfl) (by rfl) ?_ | refine tt_obj rfl ?_ | refine tt_iald rfl (by assumption) (by assumption) ?_ | refine tt_lald rfl (by assumption) (by assumption) ?_)
  refine tt_newL (N := 64) rfl (by decide) (by decide) (by decide) (Nat.le_of_ble_eq_true rfl) (Nat.le_of_ble_eq_true rfl) ?_
  refine tt_put rfl (by rw [xup_n (by omega)]; exact xup_s) rfl (by decide) (by rfl) (by rfl) rfl ?_
  repeat (first | refine tt_op rfl rfl ?_ | refine tt_get rfl (by first | assumption | rfl) (by rfl) ?_ | refine tt_obj rfl ?_ | refine tt_iald rfl (by assumption) (by assumption) ?_ | refine tt_lald rfl (by assumption) (by assumption) ?_)
  refine tt_newL (N := 14) rfl (by decide) (by decide) (by decide) (Nat.le_of_ble_eq_true rfl) (Nat.le_of_ble_eq_true rfl) ?_
  refine tt_put rfl (by rw [xup_n (by omega)]; exact xup_s) rfl (by decide) (by rfl) (by rfl) rfl ?_
  repeat (first | refine tt_op rfl rfl ?_ | refine tt_get rfl (by first | assumption | rfl) (by rfl) ?_ | refine tt_obj rfl ?_ | refine tt_iald rfl (by assumption) (by assumption) ?_ | refine tt_lald rfl (by assumption) (by assumption) ?_)
  refine tt_newL (N := 14) rfl (by decide) (by decide) (by decide) (Nat.le_of_ble_eq_true rfl) (Nat.le_of_ble_eq_true rfl) ?_
  refine tt_put rfl (by rw [xup_n (by omega)]; exact xup_s) rfl (by decide) (by rfl) (by rfl) rfl ?_
  repeat (first | refine tt_op rfl rfl ?_ | refine tt_get rfl (by first | assumption | rfl) (by rfl) ?_ | refine tt_obj rfl ?_ | refine tt_iald rfl (by assumption) (by assumption) ?_ | refine tt_lald rfl (by assumption) (by assumption) ?_)
  refine tt_newI (N := 896) rfl (by decide) (by decide) (by decide) (Nat.le_of_ble_eq_true rfl) (Nat.le_of_ble_eq_true rfl) ?_
  refine tt_put rfl (by rw [xup_n (by omega)]; exact xup_s) rfl (by decide) (by rfl) (by rfl) rfl ?_
  repeat (first | refine tt_op rfl rfl ?_ | refine tt_get rfl (by first | assumption | rfl) (by rfl) ?_ | refine tt_obj rfl ?_ | refine tt_iald rfl (by assumption) (by assumption) ?_ | refine tt_lald rfl (by assumption) (by assumption) ?_)
  refine tt_newI (N := 64) rfl (by decide) (by decide) (by decide) (Nat.le_of_ble_eq_true rfl) (Nat.le_of_ble_eq_true rfl) ?_
  refine tt_put rfl (by rw [xup_n (by omega)]; exact xup_s) rfl (by decide) (by rfl) (by rfl) rfl ?_
  repeat (first | refine tt_op rfl rfl ?_ | refine tt_get rfl (by first | assumption | rfl) (by rfl) ?_ | refine tt_obj rfl ?_ | refine tt_iald rfl (by assumption) (by assumption) ?_ | refine tt_lald rfl (by assumption) (by assumption) ?_)
  refine tt_newI (N := 4) rfl (by decide) (by decide) (by decide) (Nat.le_of_ble_eq_true rfl) (Nat.le_of_ble_eq_true rfl) ?_
  refine tt_put rfl (by rw [xup_n (by omega)]; exact xup_s) rfl (by decide) (by rfl) (by rfl) rfl ?_
  repeat (first | refine tt_op rfl rfl ?_ | refine tt_get rfl (by first | assumption | rfl) (by rfl) ?_ | refine tt_obj rfl ?_ | refine tt_iald rfl (by assumption) (by assumption) ?_ | refine tt_lald rfl (by assumption) (by assumption) ?_)
  refine tt_newI (N := 4) rfl (by decide) (by decide) (by decide) (Nat.le_of_ble_eq_true rfl) (Nat.le_of_ble_eq_true rfl) ?_
  refine tt_put rfl (by rw [xup_n (by omega)]; exact xup_s) rfl (by decide) (by rfl) (by rfl) rfl ?_
  refine tt_return rfl rfl (Nat.le_of_ble_eq_true rfl) (Nat.le_of_ble_eq_true rfl) ?_
  refine ⟨rfl, rfl, ⟨xup_s, ?_, ?_, ?_, ?_, ?_, ?_, ?_, ?_, ?_, ?_, ?_, ?_, ?_, ?_, ?_, ?_, ?_, ?_, ?_, ?_, ?_⟩, fun j hj => ?_⟩
  case refine_22 =>
    simp (disch := omega) only [xup_n]
    exact ho j hj
  all_goals simp (disch := omega) only [xup_n, xup_s]
