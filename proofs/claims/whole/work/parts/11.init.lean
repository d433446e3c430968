/-! Constructors -/
/-- cells outside are as before -/
def xsm (h h' : xHp) (A : Nat → Prop) : Prop := ∀ j, A j → h' j = h j
set_option maxRecDepth 10000 in
theorem c_Outline_init (q cl n : Nat) (h : xHp) (hq : h q = some (.inr (3, [.null, .long 0, .long 0, .long 0, .long 0, .int 0, .int 0, .int 0, .null]))) (hn : q ≠ n) : xCall xmX3_init 2 1 14 [.ref q, .ref cl] n h (fun r n' h' => r = none ∧ n' = n + 1 ∧ h' q = some (.inr (3, [.ref cl, .long 0, .long 0, .long 0, .long 0, .int 0, .int 0, .int 0, .ref n])) ∧ h' n = some (.inl (14, .inl (fun _ => 0))) ∧ ∀ j, j ≠ q → j ≠ n → h' j = h j) := by
  refine xCall.of xgX3_init rfl ?_
  repeat (first | refine tt_op rfl rfl ?_ | refine tt_get rfl (by first | assumption | rfl) (by rfl) ?_ | refine tt_obj rfl ?_ | refine tt_iald rfl (by assumption) (by assumption) ?_ | refine tt_lald rfl (by assumption) (by assumption) ?_)
  refine tt_newI (N := 14) rfl (by decide) (by decide) (by decide) (Nat.le_of_ble_eq_true rfl) (Nat.le_of_ble_eq_true rfl) ?_
  refine tt_put rfl (by rw [xup_n hn]; exact hq) rfl (by decide) (by rfl) (by rfl) rfl ?_
  repeat (first | refine tt_op rfl rfl ?_ | refine tt_get rfl (by first | assumption | rfl) (by rfl) ?_ | refine tt_obj rfl ?_ | refine tt_iald rfl (by assumption) (by assumption) ?_ | refine tt_lald rfl (by assumption) (by assumption) ?_)
  refine tt_put rfl (xup_s) rfl (by decide) (by rfl) (by rfl) rfl ?_
  refine tt_return rfl rfl (Nat.le_of_ble_eq_true rfl) (Nat.le_of_ble_eq_true rfl) ?_
  refine ⟨rfl, rfl, xup_s, ?_, fun j h1 h2 => ?_⟩
  · rw [xup_n (Ne.symm hn), xup_n (Ne.symm hn), xup_s]
  · rw [xup_n h1, xup_n h1, xup_n h2]
set_option maxRecDepth 10000 in
theorem c_Cloud_init (q n : Nat) (h : xHp) (hq : h q = some (.inr (0, [.int 0, .null, .null, .null]))) (hn : q < n) : xCall xmX0_init 2 3 42 [.ref q] n h (fun r n' h' => r = none ∧ n' = n + 3 ∧ h' q = some (.inr (0, [.int 0, .ref n, .ref (n + 1), .ref (n + 2)])) ∧ h' n = some (.inl (14, .inl (fun _ => 0))) ∧ h' (n + 1) = some (.inl (14, .inl (fun _ => 0))) ∧ h' (n + 2) = some (.inl (14, .inl (fun _ => 0))) ∧ ∀ j, j ≠ q → j < n → h' j = h j) := by
  refine xCall.of xgX0_init rfl ?_
  repeat (first | refine tt_op rfl rfl ?_ | refine tt_get rfl (by first | assumption | rfl) (by rfl) ?_ | refine tt_obj rfl ?_ | refine tt_iald rfl (by assumption) (by assumption) ?_ | refine tt_lald rfl (by assumption) (by assumption) ?_)
  refine tt_newI (N := 14) rfl (by decide) (by decide) (by decide) (Nat.le_of_ble_eq_true rfl) (Nat.le_of_ble_eq_true rfl) ?_
  refine tt_put rfl (by rw [xup_n (by omega)]; exact hq) rfl (by decide) (by rfl) (by rfl) rfl ?_
  repeat (first | refine tt_op rfl rfl ?_ | refine tt_get rfl (by first | assumption | rfl) (by rfl) ?_ | refine tt_obj rfl ?_ | refine tt_iald rfl (by assumption) (by assumption) ?_ | refine tt_lald rfl (by assumption) (by assumption) ?_)
  refine tt_newI (N := 14) rfl (by decide) (by decide) (by decide) (Nat.le_of_ble_eq_true rfl) (Nat.le_of_ble_eq_true rfl) ?_
  refine tt_put rfl (by rw [xup_n (by omega)]; exact xup_s) rfl (by decide) (by rfl) (by rfl) rfl ?_
  repeat (first | refine tt_op rfl rfl ?_ | refine tt_get rfl (by first | assumption | rfl) (by rfl) ?_ | refine tt_obj rfl ?_ | refine tt_iald rfl (by assumption) (by assumption) ?_ | refine tt_lald rfl (by assumption) (by assumption) ?_)
  refine tt_newI (N := 14) rfl (by decide) (by decide) (by decide) (Nat.le_of_ble_eq_true rfl) (Nat.le_of_ble_eq_true rfl) ?_
  refine tt_put rfl (by rw [xup_n (by omega)]; exact xup_s) rfl (by decide) (by rfl) (by rfl) rfl ?_
  refine tt_return rfl rfl (Nat.le_of_ble_eq_true rfl) (Nat.le_of_ble_eq_true rfl) ?_
  refine ⟨rfl, rfl, xup_s, ?_, ?_, ?_, fun j h1 h2 => ?_⟩
  all_goals simp (disch := omega) only [xup_n, xup_s]
set_option maxRecDepth 10000 in
theorem c_Section_init (q n : Nat) (h : xHp) (hq : h q = some (.inr (4, [.int 0, .null]))) (hn : q < n) : xCall xmX4_init 2 1 96 [.ref q] n h (fun r n' h' => r = none ∧ n' = n + 1 ∧ h' q = some (.inr (4, [.int 0, .ref n])) ∧ h' n = some (.inl (96, .inr (.inl (fun _ => 0)))) ∧ ∀ j, j ≠ q → j < n → h' j = h j) := by
  refine xCall.of xgX4_init rfl ?_
  repeat (first | refine tt_op rfl rfl ?_ | refine tt_get rfl (by first | assumption | rfl) (by rfl) ?_ | refine tt_obj rfl ?_ | refine tt_iald rfl (by assumption) (by assumption) ?_ | refine tt_lald rfl (by assumption) (by assumption) ?_)
  refine tt_newL (N := 96) rfl (by decide) (by decide) (by decide) (Nat.le_of_ble_eq_true rfl) (Nat.le_of_ble_eq_true rfl) ?_
  refine tt_put rfl (by rw [xup_n (by omega)]; exact hq) rfl (by decide) (by rfl) (by rfl) rfl ?_
  refine tt_return rfl rfl (Nat.le_of_ble_eq_true rfl) (Nat.le_of_ble_eq_true rfl) ?_
  refine ⟨rfl, rfl, xup_s, ?_, fun j h1 h2 => ?_⟩
  all_goals simp (disch := omega) only [xup_n, xup_s]
set_option maxRecDepth 10000 in
theorem c_Motions_init (q hl n : Nat) (h : xHp) (hq : h q = some (.inr (2, [.null, .int 0, .null, .null]))) (hn : q < n) : xCall xmX2_init 2 2 686 [.ref q, .ref hl] n h (fun r n' h' => r = none ∧ n' = n + 2 ∧ h' q = some (.inr (2, [.ref hl, .int 0, .ref n, .ref (n + 1)])) ∧ h' n = some (.inl (672, .inl (fun _ => 0))) ∧ h' (n + 1) = some (.inl (14, .inl (fun _ => 0))) ∧ ∀ j, j ≠ q → j < n → h' j = h j) := by
  refine xCall.of xgX2_init rfl ?_
  repeat (first | refine tt_op rfl rfl ?_ | refine tt_get rfl (by first | assumption | rfl) (by rfl) ?_ | refine tt_obj rfl ?_ | refine tt_iald rfl (by assumption) (by assumption) ?_ | refine tt_lald rfl (by assumption) (by assumption) ?_)
  refine tt_newI (N := 672) rfl (by decide) (by decide) (by decide) (Nat.le_of_ble_eq_true rfl) (Nat.le_of_ble_eq_true rfl) ?_
  refine tt_put rfl (by rw [xup_n (by omega)]; exact hq) rfl (by decide) (by rfl) (by rfl) rfl ?_
  repeat (first | refine tt_op rfl rfl ?_ | refine tt_get rfl (by first | assumption | rfl) (by rfl) ?_ | refine tt_obj rfl ?_ | refine tt_iald rfl (by assumption) (by assumption) ?_ | refine tt_lald rfl (by assumption) (by assumption) ?_)
  refine tt_newI (N := 14) rfl (by decide) (by decide) (by decide) (Nat.le_of_ble_eq_true rfl) (Nat.le_of_ble_eq_true rfl) ?_
  refine tt_put rfl (by rw [xup_n (by omega)]; exact xup_s) rfl (by decide) (by rfl) (by rfl) rfl ?_
  repeat (first | refine tt_op rfl rfl ?_ | refine tt_get rfl (by first | assumption | rfl) (by rfl) ?_ | refine tt_obj rfl ?_ | refine tt_iald rfl (by assumption) (by assumption) ?_ | refine tt_lald rfl (by assumption) (by assumption) ?_)
  refine tt_put rfl (xup_s) rfl (by decide) (by rfl) (by rfl) rfl ?_
  refine tt_return rfl rfl (Nat.le_of_ble_eq_true rfl) (Nat.le_of_ble_eq_true rfl) ?_
  refine ⟨rfl, rfl, xup_s, ?_, ?_, fun j h1 h2 => ?_⟩
  all_goals simp (disch := omega) only [xup_n, xup_s]
