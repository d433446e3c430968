theorem xT.cg {M : xM} {B B' : xB} {pc : Nat} {l l' : xL} {st : List Value} {n n' : Nat} {h : xHp} {Q : xQt} (hB : B = B') (hl : l = l') (hn : n = n') (k : xT M B' pc l' st n' h Q) : xT M B pc l st n h Q := by subst hB; subst hl; subst hn; exact k
/-- an outline's cell -/
abbrev xOl (a b c lv : Int64) (se me le : Int32) (rw : Nat) : xE := .inr (3, [.ref 1, .long a, .long b, .long c, .long lv, .int se, .int me, .int le, .ref rw])
abbrev xI14 (f : Nat → Int32) : xE := .inl (14, .inl f)
def xJ (h0 : xHp) (f : Nat) (h : xHp) : Prop := h 5 = some (.inr (1, [.ref 1, .ref 6, .int 0, .int 0, .int 0, .ref 7, .long 0, .ref 8])) ∧ (∃ rd : Nat → Option Nat, h 6 = some (.inl (24, .inr (.inr (.inr (.inr rd))))) ∧ ∀ i, i < f → rd i = some (9 + 2 * i)) ∧ h 7 = some (xI14 fun _ => 0) ∧ h 8 = some (.inl (3, .inr (.inl fun _ => 0))) ∧ (∀ i, i < f → h (9 + 2 * i) = some (xOl 0 0 0 0 0 0 0 (10 + 2 * i)) ∧ h (10 + 2 * i) = some (xI14 fun _ => 0)) ∧ ∀ j, j < 5 → h j = h0 j
set_option maxRecDepth 10000 in
theorem c_Hull_loop (h0 : xHp) (Q : xQt) (hQ : ∀ h, xJ h0 24 h → Q none 57 h) : ∀ (k f : Nat) (h : xHp), f + k = 24 → xJ h0 f h → xT xmX1_init (4, 51, 593, 3 + 2 * f, 41 + 23 * f) 35 [some (.ref 5), some (.ref 1), some (.int (nI f))] [] (9 + 2 * f) h Q := by
  intro k
  induction k with
  | zero =>
    intro f h hk hJ
    have hf : f = 24 := by omega
    subst hf
    repeat (first | refine tt_op rfl rfl ?_ | refine tt_get rfl (by first | assumption | rfl) (by rfl) ?_ | refine tt_obj rfl ?_ | refine tt_iald rfl (by assumption) (by assumption) ?_ | refine tt_lald rfl (by assumption) (by assumption) ?_)
    refine tt_icmp rfl (fun c => ?_) (fun c => absurd (show Int32.ofInt 24 ≤ nI 24 by decide) c)
    refine tt_return rfl rfl (Nat.le_of_ble_eq_true rfl) (Nat.le_of_ble_eq_true rfl) ?_
    exact hQ h hJ
  | succ k ih =>
    intro f h hk hJ
    obtain ⟨j5, ⟨rd, j6, jr⟩, j7, j8, jo, jl⟩ := hJ
    repeat (first | refine tt_op rfl rfl ?_ | refine tt_get rfl (by first | assumption | rfl) (by rfl) ?_ | refine tt_obj rfl ?_ | refine tt_iald rfl (by assumption) (by assumption) ?_ | refine tt_lald rfl (by assumption) (by assumption) ?_)
    refine tt_icmp rfl (fun c => absurd (show nI 24 ≤ nI f from c) (nI_ge (by omega) (by omega))) (fun c => ?_)
    repeat (first | refine tt_op rfl rfl ?_ | refine tt_get rfl (by first | assumption | rfl) (by rfl) ?_ | refine tt_obj rfl ?_ | refine tt_iald rfl (by assumption) (by assumption) ?_ | refine tt_lald rfl (by assumption) (by assumption) ?_)
    refine tt_new (r := (RX3, TX3, 9)) (fs := [.null, .long 0, .long 0, .long 0, .long 0, .int 0, .int 0, .int 0, .null]) rfl rfl rfl (by show 3 + 2 * f + 1 ≤ 51; omega) (by show 41 + 23 * f + 9 ≤ 593; omega) ?_
    repeat (first | refine tt_op rfl rfl ?_ | refine tt_get rfl (by first | assumption | rfl) (by rfl) ?_ | refine tt_obj rfl ?_ | refine tt_iald rfl (by assumption) (by assumption) ?_ | refine tt_lald rfl (by assumption) (by assumption) ?_)
    refine tt_callI (M' := xmX3_init) rfl rfl rfl rfl (c_Outline_init (9 + 2 * f) 1 (9 + 2 * f + 1) _ xup_s (by omega)) ?_ (Nat.le_of_ble_eq_true rfl) (by show 3 + 2 * f + 1 + 1 ≤ 51; omega) (by show 41 + 23 * f + 9 + 14 ≤ 593; omega)
    rintro r n' h' ⟨rfl, rfl, e1, e2, e3⟩
    have e6 : h' 6 = some (.inl (24, .inr (.inr (.inr (.inr rd))))) := by rw [e3 6 (by omega) (by omega), xup_n (by omega)]; exact j6
    refine tt_aast rfl e6 (vp_in_nI (by omega) (by omega)) e1 ?_
    repeat (first | refine tt_op rfl rfl ?_ | refine tt_get rfl (by first | assumption | rfl) (by rfl) ?_ | refine tt_obj rfl ?_ | refine tt_iald rfl (by assumption) (by assumption) ?_ | refine tt_lald rfl (by assumption) (by assumption) ?_)
    refine tt_goto rfl ?_
    refine xT.cg (B' := (4, 51, 593, 3 + 2 * (f + 1), 41 + 23 * (f + 1))) ?_ (l' := [some (.ref 5), some (.ref 1), some (.int (nI (f + 1)))]) ?_ (n' := 9 + 2 * (f + 1)) (by omega) (ih (f + 1) _ (by omega) ?_)
    · show ((4, 51, 593, 3 + 2 * f + 1 + 1, 41 + 23 * f + 9 + 14) : xB) = _
      rw [show 3 + 2 * f + 1 + 1 = 3 + 2 * (f + 1) by omega, show 41 + 23 * f + 9 + 14 = 41 + 23 * (f + 1) by omega]
    · show ([some (.ref 5), some (.ref 1), some (.int (nI f + Int32.ofInt 1))] : xL) = _
      rw [show nI f + Int32.ofInt 1 = nI (f + 1) from nI_1 f]
    · have old : ∀ j, j < 9 + 2 * f → j ≠ 6 → xup h' 6 (.inl (24, .inr (.inr (.inr (.inr (va_up rd (nI f).toNatClampNeg (some (9 + 2 * f)))))))) j = h j := fun j hj h6 => by
        rw [xup_n h6, e3 j (by omega) (by omega), xup_n (by omega)]
      refine ⟨?_, ⟨_, xup_s, fun i hi => ?_⟩, ?_, ?_, fun i hi => ?_, fun j hj => ?_⟩
      · rw [old 5 (by omega) (by omega)]; exact j5
      · rw [nI_clamp (by omega)]
        simp only [va_up]
        by_cases hif : i = f
        · rw [if_pos hif, hif]
        · rw [if_neg hif]; exact jr i (by omega)
      · rw [old 7 (by omega) (by omega)]; exact j7
      · rw [old 8 (by omega) (by omega)]; exact j8
      · by_cases hif : i = f
        · subst hif
          rw [xup_n (by omega), xup_n (by omega)]
          refine ⟨?_, ?_⟩
          · rw [e1, show 10 + 2 * i = 9 + 2 * i + 1 by omega]
          · rw [show 10 + 2 * i = 9 + 2 * i + 1 by omega]; exact e2
        · rw [old _ (by omega) (by omega), old _ (by omega) (by omega)]
          exact jo i (by omega)
      · rw [old j (by omega) (by omega)]; exact jl j hj
set_option maxRecDepth 10000 in
theorem c_Hull_init (h : xHp) (hq : h 5 = some (.inr (1, [.null, .null, .int 0, .int 0, .int 0, .null, .long 0, .null]))) : xCall xmX1_init 4 51 593 [.ref 5, .ref 1] 6 h (fun r n' h' => r = none ∧ n' = 57 ∧ xJ h 24 h') := by
  refine xCall.of xgX1_init rfl ?_
  repeat (first | refine tt_op rfl rfl ?_ | refine tt_get rfl (by first | assumption | rfl) (by rfl) ?_ | refine tt_obj rfl ?_ | refine tt_iald rfl (by assumption) (by assumption) ?_ | refine tt_lald rfl (by assumption) (by assumption) ?_)
  refine tt_newA (N := 24) rfl (by decide) (by decide) (by decide) (Nat.le_of_ble_eq_true rfl) (Nat.le_of_ble_eq_true rfl) ?_
  refine tt_put rfl (by rw [xup_n (by omega)]; exact hq) rfl (by decide) (by rfl) (by rfl) rfl ?_
  repeat (first | refine tt_op rfl rfl ?_ | refine tt_get rfl (by first | assumption | rfl) (by rfl) ?_ | refine tt_obj rfl ?_ | refine tt_iald rfl (by assumption) (by assumption) ?_ | refine tt_lald rfl (by assumption) (by assumption) ?_)
  refine tt_newI (N := 14) rfl (by decide) (by decide) (by decide) (Nat.le_of_ble_eq_true rfl) (Nat.le_of_ble_eq_true rfl) ?_
  refine tt_put rfl (by rw [xup_n (by omega)]; exact xup_s) rfl (by decide) (by rfl) (by rfl) rfl ?_
  repeat (first | refine tt_op rfl rfl ?_ | refine tt_get rfl (by first | assumption | rfl) (by rfl) ?_ | refine tt_obj rfl ?_ | refine tt_iald rfl (by assumption) (by assumption) ?_ | refine tt_lald rfl (by assumption) (by assumption) ?_)
  refine tt_newL (N := 3) rfl (by decide) (by decide) (by decide) (Nat.le_of_ble_eq_true rfl) (Nat.le_of_ble_eq_true rfl) ?_
  refine tt_put rfl (by rw [xup_n (by omega)]; exact xup_s) rfl (by decide) (by rfl) (by rfl) rfl ?_
  repeat (first | refine tt_op rfl rfl ?_ | refine tt_get rfl (by first | assumption | rfl) (by rfl) ?_ | refine tt_obj rfl ?_ | refine tt_iald rfl (by assumption) (by assumption) ?_ | refine tt_lald rfl (by assumption) (by assumption) ?_)
  refine tt_put rfl (xup_s) rfl (by decide) (by rfl) (by rfl) rfl ?_
  refine tt_op rfl rfl ?_
  refine tt_op rfl rfl ?_
  refine c_Hull_loop h _ (fun h' hJ => ⟨rfl, rfl, hJ⟩) 24 0 _ rfl ?_
  refine ⟨xup_s, ⟨fun _ => none, ?_, fun i hi => absurd hi (by omega)⟩, ?_, ?_, fun i hi => absurd hi (by omega), fun j hj => ?_⟩
  all_goals simp (disch := omega) only [xup_n, xup_s]
/-- the class's cells as its constructor leaves them -/
def xIc (h : xHp) : Prop := h 0 = some (.inr (5, [.ref 1, .ref 5, .ref 57, .ref 59, .ref 62])) ∧ h 1 = some (.inr (0, [.int 0, .ref 2, .ref 3, .ref 4])) ∧ h 2 = some (xI14 fun _ => 0) ∧ h 3 = some (xI14 fun _ => 0) ∧ h 4 = some (xI14 fun _ => 0) ∧
  h 5 = some (.inr (1, [.ref 1, .ref 6, .int 0, .int 0, .int 0, .ref 7, .long 0, .ref 8])) ∧ (∃ rd : Nat → Option Nat, h 6 = some (.inl (24, .inr (.inr (.inr (.inr rd))))) ∧ ∀ i, i < 24 → rd i = some (9 + 2 * i)) ∧ h 7 = some (xI14 fun _ => 0) ∧ h 8 = some (.inl (3, .inr (.inl fun _ => 0))) ∧
  (∀ i, i < 24 → h (9 + 2 * i) = some (xOl 0 0 0 0 0 0 0 (10 + 2 * i)) ∧ h (10 + 2 * i) = some (xI14 fun _ => 0)) ∧ h 57 = some (.inr (4, [.int 0, .ref 58])) ∧ h 58 = some (.inl (96, .inr (.inl fun _ => 0))) ∧ h 59 = some (.inr (2, [.ref 5, .int 0, .ref 60, .ref 61])) ∧ h 60 = some (.inl (672, .inl fun _ => 0)) ∧ h 61 = some (xI14 fun _ => 0) ∧
  h 62 = some (xOl 0 0 0 0 0 0 0 63) ∧ h 63 = some (xI14 fun _ => 0)
set_option maxRecDepth 10000 in
theorem c_Solid_init (h : xHp) (hq : h 0 = some (.inr (5, [.null, .null, .null, .null, .null]))) : xCall xmX5_init 100 63 1500 [.ref 0] 1 h (fun r n' h' => r = none ∧ n' = 64 ∧ xIc h') := by
  refine xCall.of xgX5_init rfl ?_
  repeat (first | refine tt_op rfl rfl ?_ | refine tt_get rfl (by first | assumption | rfl) (by rfl) ?_ | refine tt_obj rfl ?_ | refine tt_iald rfl (by assumption) (by assumption) ?_ | refine tt_lald rfl (by assumption) (by assumption) ?_)
  refine tt_new (r := (RX0, TX0, 4)) (fs := [.int 0, .null, .null, .null]) rfl rfl rfl (Nat.le_of_ble_eq_true rfl) (Nat.le_of_ble_eq_true rfl) ?_
  repeat (first | refine tt_op rfl rfl ?_ | refine tt_get rfl (by first | assumption | rfl) (by rfl) ?_ | refine tt_obj rfl ?_ | refine tt_iald rfl (by assumption) (by assumption) ?_ | refine tt_lald rfl (by assumption) (by assumption) ?_)
  refine tt_callI (M' := xmX0_init) rfl rfl rfl rfl (c_Cloud_init 1 2 _ xup_s (by omega)) ?_
  rintro r n1 h1 ⟨rfl, rfl, a1, a2, a3, a4, a5⟩
  refine tt_put rfl (by rw [a5 0 (by omega) (by omega), xup_n (by omega)]; exact hq) rfl (by decide) (by rfl) (by rfl) rfl ?_
  repeat (first | refine tt_op rfl rfl ?_ | refine tt_get rfl (by first | assumption | rfl) (by rfl) ?_ | refine tt_obj rfl ?_ | refine tt_iald rfl (by assumption) (by assumption) ?_ | refine tt_lald rfl (by assumption) (by assumption) ?_)
  refine tt_new (r := (RX1, TX1, 8)) (fs := [.null, .null, .int 0, .int 0, .int 0, .null, .long 0, .null]) rfl rfl rfl (Nat.le_of_ble_eq_true rfl) (Nat.le_of_ble_eq_true rfl) ?_
  refine tt_op rfl rfl ?_
  refine tt_op rfl rfl ?_
  refine tt_get rfl (by rw [xup_n (by omega)]; exact xup_s) (by rfl) ?_
  refine tt_callI (M' := xmX1_init) rfl rfl rfl rfl (c_Hull_init _ xup_s) ?_
  rintro r n2 h2 ⟨rfl, rfl, b1, b2, b3, b4, b5, b6⟩
  refine tt_put rfl (by rw [b6 0 (by omega), xup_n (by omega)]; exact xup_s) rfl (by decide) (by rfl) (by rfl) rfl ?_
  repeat (first | refine tt_op rfl rfl ?_ | refine tt_get rfl (by first | assumption | rfl) (by rfl) ?_ | refine tt_obj rfl ?_ | refine tt_iald rfl (by assumption) (by assumption) ?_ | refine tt_lald rfl (by assumption) (by assumption) ?_)
  refine tt_new (r := (RX4, TX4, 2)) (fs := [.int 0, .null]) rfl rfl rfl (Nat.le_of_ble_eq_true rfl) (Nat.le_of_ble_eq_true rfl) ?_
  repeat (first | refine tt_op rfl rfl ?_ | refine tt_get rfl (by first | assumption | rfl) (by rfl) ?_ | refine tt_obj rfl ?_ | refine tt_iald rfl (by assumption) (by assumption) ?_ | refine tt_lald rfl (by assumption) (by assumption) ?_)
  refine tt_callI (M' := xmX4_init) rfl rfl rfl rfl (c_Section_init 57 58 _ xup_s (by omega)) ?_
  rintro r n3 h3 ⟨rfl, rfl, d1, d2, d3⟩
  refine tt_put rfl (by rw [d3 0 (by omega) (by omega), xup_n (by omega)]; exact xup_s) rfl (by decide) (by rfl) (by rfl) rfl ?_
  repeat (first | refine tt_op rfl rfl ?_ | refine tt_get rfl (by first | assumption | rfl) (by rfl) ?_ | refine tt_obj rfl ?_ | refine tt_iald rfl (by assumption) (by assumption) ?_ | refine tt_lald rfl (by assumption) (by assumption) ?_)
  refine tt_new (r := (RX2, TX2, 4)) (fs := [.null, .int 0, .null, .null]) rfl rfl rfl (Nat.le_of_ble_eq_true rfl) (Nat.le_of_ble_eq_true rfl) ?_
  refine tt_op rfl rfl ?_
  refine tt_op rfl rfl ?_
  refine tt_get rfl (by rw [xup_n (by omega)]; exact xup_s) (by rfl) ?_
  refine tt_callI (M' := xmX2_init) rfl rfl rfl rfl (c_Motions_init 59 5 60 _ xup_s (by omega)) ?_
  rintro r n4 h4 ⟨rfl, rfl, e1, e2, e3, e4⟩
  refine tt_put rfl (by rw [e4 0 (by omega) (by omega), xup_n (by omega)]; exact xup_s) rfl (by decide) (by rfl) (by rfl) rfl ?_
  repeat (first | refine tt_op rfl rfl ?_ | refine tt_get rfl (by first | assumption | rfl) (by rfl) ?_ | refine tt_obj rfl ?_ | refine tt_iald rfl (by assumption) (by assumption) ?_ | refine tt_lald rfl (by assumption) (by assumption) ?_)
  refine tt_new (r := (RX3, TX3, 9)) (fs := [.null, .long 0, .long 0, .long 0, .long 0, .int 0, .int 0, .int 0, .null]) rfl rfl rfl (Nat.le_of_ble_eq_true rfl) (Nat.le_of_ble_eq_true rfl) ?_
  refine tt_op rfl rfl ?_
  refine tt_op rfl rfl ?_
  refine tt_get rfl (by rw [xup_n (by omega)]; exact xup_s) (by rfl) ?_
  refine tt_callI (M' := xmX3_init) rfl rfl rfl rfl (c_Outline_init 62 1 63 _ xup_s (by omega)) ?_
  rintro r n5 h5 ⟨rfl, rfl, f1, f2, f3⟩
  refine tt_put rfl (by rw [f3 0 (by omega) (by omega), xup_n (by omega)]; exact xup_s) rfl (by decide) (by rfl) (by rfl) rfl ?_
  refine tt_return rfl rfl (Nat.le_of_ble_eq_true rfl) (Nat.le_of_ble_eq_true rfl) ?_
  have g5 : ∀ j, j < 62 → j ≠ 0 → h5 j = h4 j := fun j hj h0 => by rw [f3 j (by omega) (by omega), xup_n (by omega), xup_n h0]
  have g4 : ∀ j, j < 59 → j ≠ 0 → h5 j = h3 j := fun j hj h0 => by rw [g5 j (by omega) h0, e4 j (by omega) (by omega), xup_n (by omega), xup_n h0]
  have g3 : ∀ j, j < 57 → j ≠ 0 → h5 j = h2 j := fun j hj h0 => by rw [g4 j (by omega) h0, d3 j (by omega) (by omega), xup_n (by omega), xup_n h0]
  have g2 : ∀ j, j < 5 → j ≠ 0 → h5 j = h1 j := fun j hj h0 => by rw [g3 j (by omega) h0, b6 j hj, xup_n (by omega), xup_n h0]
  refine ⟨rfl, rfl, xup_s, ?_⟩
  simp (disch := omega) only [xup_n]
  rw [g2 1 (by omega) (by omega), g2 2 (by omega) (by omega), g2 3 (by omega) (by omega), g2 4 (by omega) (by omega), g3 5 (by omega) (by omega), g3 6 (by omega) (by omega), g3 7 (by omega) (by omega), g3 8 (by omega) (by omega), g4 57 (by omega) (by omega), g4 58 (by omega) (by omega), g5 59 (by omega) (by omega), g5 60 (by omega) (by omega), g5 61 (by omega) (by omega)]
  refine ⟨a1, a2, a3, a4, b1, b2, b3, b4, fun i hi => ?_, d1, d2, e1, e2, e3, f1, f2⟩
  rw [g3 _ (by omega) (by omega), g3 _ (by omega) (by omega)]
  exact b5 i hi
