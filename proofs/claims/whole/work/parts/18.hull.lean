/-! The hull: its cells, its faces one by one -/
/-- a face's data: normal, level, points of its plane, corners, how many, the row -/
abbrev FD : Type := V3 × Int × Nat × Nat × Nat × (Nat → Nat)
abbrev fdC (x : FD) (rw : Nat) : xE := oC x.1 x.2.1 x.2.2.1 x.2.2.2.1 x.2.2.2.2.1 rw
abbrev fdA (x : FD) : xE := zA 14 fun k => (x.2.2.2.2.2 k : Int)
def fdV (x : FD) : Prop := vbd 3200 x.1 ∧ (-1000000 ≤ x.2.1 ∧ x.2.1 ≤ 1000000) ∧ x.2.2.1 < 16384 ∧ x.2.2.2.1 < 16384 ∧ x.2.2.2.2.1 ≤ 14 ∧ ∀ k, k < 14 → x.2.2.2.2.2 k < 14
/-- the outlines in the order of the row of them -/
def xHf (h : xHp) (ad : Nat → Nat) (f : Nat → FD) : Prop := (∃ rd : Nat → Option Nat, h 6 = some (zR 24 rd) ∧ ∀ i, i < 24 → rd i = some (ad i)) ∧ (∀ i, i < 24 → 9 ≤ ad i ∧ ad i ≤ 55 ∧ ad i % 2 = 1) ∧ (∀ i j, i < 24 → j < 24 → ad i = ad j → i = j) ∧ (∀ i, i < 24 → h (ad i) = some (fdC (f i) (ad i + 1)) ∧ h (ad i + 1) = some (fdA (f i))) ∧ ∀ i, i < 24 → fdV (f i)
/-- the hull's own cell -/
abbrev huC (F E CB : Nat) (six : Int) : xE := .inr (1, [.ref 1, .ref 6, zI F, zI E, zI CB, .ref 7, zJ six, .ref 8])
section HU
variable {h : xHp} {m : Nat} {P : Nat → V3} {n : Nat} {ad : Nat → Nat} {f : Nat → FD} {F E CB : Nat} {six : Int}
set_option maxRecDepth 10000 in
theorem c_isCorner (h5 : h 5 = some (huC F E CB six)) (k : Nat) (hk : k < 14) (hCB : CB < 16384) : xPure xmX1_isCorner 2 [.ref 5, zI k] n h (zI (if CB.testBit k = true then 1 else 0)) := by
  refine xCall.of xgX1_isCorner rfl ?_
  refine tt_op rfl rfl ?_
  refine tt_pS rfl rfl rfl rfl (c_isPoint k hk n h) ?_
  refine z_if rfl (by first | assumption | (unfold R3; omega)) (fun c => absurd c (by simp only [zcd] <;> omega)) (fun c => ?_)
  refine tt_op rfl rfl ?_
  refine tt_get rfl (by assumption) (by rfl) ?_
  refine tt_op rfl rfl ?_
  refine z_tb rfl rfl rfl (by omega) (by omega) ?_
  refine z_if rfl (by split <;> exact ⟨by decide, by decide⟩) (fun c1 => ?_) (fun c1 => ?_)
  · cases hx : CB.testBit k with
    | true => simp [zcd, hx] at c1
    | false =>
      refine tt_op rfl rfl ?_
      refine tt_ireturn rfl rfl (by rfl) (Nat.le_of_ble_eq_true rfl) (Nat.le_of_ble_eq_true rfl) ?_
      exact ⟨rfl, rfl, rfl⟩
  · cases hx : CB.testBit k with
    | false => simp [zcd, hx] at c1
    | true =>
      refine tt_op rfl rfl ?_
      refine tt_goto rfl ?_
      refine tt_ireturn rfl rfl (by rfl) (Nat.le_of_ble_eq_true rfl) (Nat.le_of_ble_eq_true rfl) ?_
      exact ⟨rfl, rfl, rfl⟩
set_option maxRecDepth 10000 in
theorem c_isPoint_no (z : Int) (hz : R3 z) (hn : ¬ (0 ≤ z ∧ z < 14)) (n : Nat) (h : xHp) : xPure xmX5_isPoint 1 [zI z] n h (zI 0) := by
  refine xCall.of xgX5_isPoint rfl ?_
  refine tt_op rfl rfl ?_
  refine z_if rfl (by first | assumption | (unfold R3; omega)) (fun c1 => ?_) (fun c1 => ?_)
  · refine tt_op rfl rfl ?_
    refine tt_ireturn rfl rfl (by rfl) (Nat.le_of_ble_eq_true rfl) (Nat.le_of_ble_eq_true rfl) ?_
    exact ⟨rfl, rfl, rfl⟩
  simp only [zcd] at c1
  refine tt_op rfl rfl ?_
  refine tt_op rfl rfl ?_
  refine z_icmp rfl (by first | assumption | (unfold R3; omega)) (by first | assumption | (unfold R3; omega)) (fun c => ?_) (fun c => absurd (by simp only [zcd] <;> omega) c)
  refine tt_op rfl rfl ?_
  refine tt_ireturn rfl rfl (by rfl) (Nat.le_of_ble_eq_true rfl) (Nat.le_of_ble_eq_true rfl) ?_
  exact ⟨rfl, rfl, rfl⟩
set_option maxRecDepth 10000 in
theorem c_isCorner_no (z : Int) (hz : R3 z) (hn : ¬ (0 ≤ z ∧ z < 14)) : xPure xmX1_isCorner 2 [.ref 5, zI z] n h (zI 0) := by
  refine xCall.of xgX1_isCorner rfl ?_
  refine tt_op rfl rfl ?_
  refine tt_pS rfl rfl rfl rfl (c_isPoint_no z hz hn n h) ?_
  refine z_if rfl (by first | assumption | (unfold R3; omega)) (fun c => ?_) (fun c => absurd (by simp only [zcd] <;> omega) c)
  refine tt_op rfl rfl ?_
  refine tt_ireturn rfl rfl (by rfl) (Nat.le_of_ble_eq_true rfl) (Nat.le_of_ble_eq_true rfl) ?_
  exact ⟨rfl, rfl, rfl⟩
set_option maxRecDepth 10000 in
theorem c_hasFace (h5 : h 5 = some (huC F E CB six)) (hF : F ≤ 24) (z : Int) (hz : R3 z) (v : Value) (hv1 : 0 ≤ z ∧ z < F → v = zI 1) (hv0 : ¬ (0 ≤ z ∧ z < F) → v = zI 0) : xPure xmX1_hasFace 1 [.ref 5, zI z] n h v := by
  refine xCall.of xgX1_hasFace rfl ?_
  refine tt_op rfl rfl ?_
  refine z_if rfl (by first | assumption | (unfold R3; omega)) (fun c1 => ?_) (fun c1 => ?_)
  · simp only [zcd] at c1
    refine tt_op rfl rfl ?_
    refine tt_ireturn rfl rfl (by rfl) (Nat.le_of_ble_eq_true rfl) (Nat.le_of_ble_eq_true rfl) ?_
    exact ⟨congrArg some (hv0 (by omega)).symm, rfl, rfl⟩
  simp only [zcd] at c1
  refine tt_op rfl rfl ?_
  refine tt_op rfl rfl ?_
  refine tt_get rfl (by assumption) (by rfl) ?_
  refine z_icmp rfl (by first | assumption | (unfold R3; omega)) (by first | assumption | (unfold R3; omega)) (fun c2 => ?_) (fun c2 => ?_)
  · simp only [zcd] at c2
    refine tt_op rfl rfl ?_
    refine tt_ireturn rfl rfl (by rfl) (Nat.le_of_ble_eq_true rfl) (Nat.le_of_ble_eq_true rfl) ?_
    exact ⟨congrArg some (hv0 (by omega)).symm, rfl, rfl⟩
  simp only [zcd] at c2
  refine tt_op rfl rfl ?_
  refine tt_op rfl rfl ?_
  refine z_icmp rfl (by first | assumption | (unfold R3; omega)) (by first | assumption | (unfold R3; omega)) (fun c => absurd c (by simp only [zcd] <;> omega)) (fun c => ?_)
  refine tt_op rfl rfl ?_
  refine tt_goto rfl ?_
  refine tt_ireturn rfl rfl (by rfl) (Nat.le_of_ble_eq_true rfl) (Nat.le_of_ble_eq_true rfl) ?_
  exact ⟨congrArg some (hv1 (by omega)).symm, rfl, rfl⟩
/-- whether some face's plane has all these points -/
def knR (f : Nat → FD) (w : Nat) : Nat → Nat → Bool
  | 0, _ => false
  | k + 1, i => if (f i).2.2.1 &&& w = w then true else knR f w k (i + 1)
set_option maxRecDepth 10000 in
theorem c_known_loop (h5 : h 5 = some (huC F E CB six)) (H : xHf h ad f) (hF : F ≤ 24) (w : Nat) (hw : w < 16384) : ∀ (k i : Nat), i + k = F → xT xmX1_isKnown (1, 0, 0, 0, 0) 2 [some (.ref 5), some (zI w), some (zI i)] [] n h (fun r n' h' => r = some (zI (if knR f w k i = true then 1 else 0)) ∧ n' = n ∧ h' = h) := by
  obtain ⟨⟨rd, h6, hrd⟩, hA, hI, hC, hV⟩ := H
  intro k
  induction k with
  | zero =>
    intro i hi
    refine tt_op rfl rfl ?_
    refine tt_op rfl rfl ?_
    refine tt_get rfl (by assumption) (by rfl) ?_
    refine z_icmp rfl (by first | assumption | (unfold R3; omega)) (by first | assumption | (unfold R3; omega)) (fun c => ?_) (fun c => absurd (by simp only [zcd] <;> omega) c)
    refine tt_op rfl rfl ?_
    refine tt_ireturn rfl rfl (by rfl) (Nat.le_of_ble_eq_true rfl) (Nat.le_of_ble_eq_true rfl) ?_
    exact ⟨rfl, rfl, rfl⟩
  | succ k ih =>
    intro i hi
    have hO := (hC i (by omega)).1
    have hse := (hV i (by omega)).2.2.1
    unfold knR
    refine tt_op rfl rfl ?_
    refine tt_op rfl rfl ?_
    refine tt_get rfl (by assumption) (by rfl) ?_
    refine z_icmp rfl (by first | assumption | (unfold R3; omega)) (by first | assumption | (unfold R3; omega)) (fun c => absurd c (by simp only [zcd] <;> omega)) (fun c => ?_)
    refine tt_op rfl rfl ?_
    refine tt_op rfl rfl ?_
    refine z_icmp rfl (by first | assumption | (unfold R3; omega)) (by first | assumption | (unfold R3; omega)) (fun c => absurd c (by simp only [zcd] <;> omega)) (fun c => ?_)
    refine tt_op rfl rfl ?_
    refine tt_get rfl (by assumption) (by rfl) ?_
    refine tt_op rfl rfl ?_
    refine z_aald rfl h6 rfl (by omega) (by decide) (hrd i (by omega)) ?_
    refine tt_get rfl (by assumption) (by rfl) ?_
    refine tt_op rfl rfl ?_
    refine z_iand rfl ?_
    refine tt_op rfl rfl ?_
    have hlt : (f i).2.2.1 &&& w < 16384 := Nat.lt_of_le_of_lt Nat.and_le_left hse
    refine z_icmp rfl (by first | assumption | (unfold R3; omega)) (by first | assumption | (unfold R3; omega)) (fun c1 => ?_) (fun c1 => ?_)
    · simp only [zcd] at c1
      rw [if_neg (show ¬ (f i).2.2.1 &&& w = w by omega)]
      refine z_iinc rfl rfl rfl ?_
      refine tt_goto rfl ?_
      exact ih (i + 1) (by omega)
    · simp only [zcd] at c1
      rw [if_pos (show (f i).2.2.1 &&& w = w by omega)]
      refine tt_op rfl rfl ?_
      refine tt_ireturn rfl rfl (by rfl) (Nat.le_of_ble_eq_true rfl) (Nat.le_of_ble_eq_true rfl) ?_
      exact ⟨rfl, rfl, rfl⟩
set_option maxRecDepth 10000 in
theorem c_isKnown (h5 : h 5 = some (huC F E CB six)) (H : xHf h ad f) (hF : F ≤ 24) (w : Nat) (hw : w < 16384) : xPure xmX1_isKnown 1 [.ref 5, zI w] n h (zI (if knR f w F 0 = true then 1 else 0)) := by
  refine xCall.of xgX1_isKnown rfl ?_
  refine tt_op rfl rfl ?_
  refine tt_op rfl rfl ?_
  exact c_known_loop h5 H hF w hw F 0 (by omega)
/-- the late face goes down to its place -/
def sw2 {α : Type} (f : Nat → α) (k : Nat) : Nat → α := fun j => if j = k then f (k + 1) else if j = k + 1 then f k else f j
def fld (x y : FD) : Bool := ldR (fun k => (x.2.2.2.2.2 k : Int)) (fun k => (y.2.2.2.2.2 k : Int)) x.2.2.2.2.1 y.2.2.2.2.1 14 0
def stR (f : Nat → FD) : Nat → Nat → FD
  | 0 => f
  | k + 1 => if fld (f (k + 1)) (f k) = true then stR (sw2 f k) k else f
theorem xHf_sw {k : Nat} (hk : k + 1 < 24) (H : xHf h ad f) (rd : Nat → Option Nat) (hrd : ∀ i, i < 24 → rd i = some (ad i)) : xHf (xup h 6 (zR 24 (va_up (va_up rd (k + 1) (some (ad k))) k (some (ad (k + 1)))))) (sw2 ad k) (sw2 f k) := by
  obtain ⟨-, hA, hI, hC, hV⟩ := H
  have key : ∀ i, i < 24 → ∃ j, j < 24 ∧ sw2 ad k i = ad j ∧ sw2 f k i = f j := fun i hi => by
    unfold sw2
    by_cases h1 : i = k
    · exact ⟨k + 1, hk, by simp [h1], by simp [h1]⟩
    · by_cases h2 : i = k + 1
      · exact ⟨k, by omega, by simp [h2], by simp [h2]⟩
      · exact ⟨i, hi, by simp [h1, h2], by simp [h1, h2]⟩
  refine ⟨⟨_, xup_s, fun i hi => ?_⟩, fun i hi => ?_, fun i j hi hj hij => ?_, fun i hi => ?_, fun i hi => ?_⟩
  · simp only [va_up, sw2]
    by_cases h1 : i = k
    · simp [h1]
    · by_cases h2 : i = k + 1
      · simp [h2]
      · simp [h1, h2, hrd i hi]
  · obtain ⟨j, h1, h2, -⟩ := key i hi
    rw [h2]; exact hA j h1
  · unfold sw2 at hij
    have inj := hI
    by_cases a1 : i = k <;> by_cases b1 : j = k
    · omega
    · by_cases b2 : j = k + 1
      · simp only [a1, b2, if_pos, if_neg (show ¬ k + 1 = k by omega)] at hij
        have := hI (k + 1) k hk (by omega) hij
        omega
      · simp only [a1, if_pos, if_neg b1, if_neg b2] at hij
        have := hI (k + 1) j hk hj hij
        omega
    · by_cases a2 : i = k + 1
      · simp only [b1, a2, if_pos, if_neg (show ¬ k + 1 = k by omega)] at hij
        have := hI k (k + 1) (by omega) hk hij
        omega
      · simp only [b1, if_pos, if_neg a1, if_neg a2] at hij
        have := hI i (k + 1) hi hk hij
        omega
    · by_cases a2 : i = k + 1 <;> by_cases b2 : j = k + 1
      · omega
      · simp only [if_neg a1, if_neg b1, if_pos a2, if_neg b2] at hij
        have := hI k j (by omega) hj hij
        omega
      · simp only [if_neg a1, if_neg b1, if_neg a2, if_pos b2] at hij
        have := hI i k hi (by omega) hij
        omega
      · simp only [if_neg a1, if_neg b1, if_neg a2, if_neg b2] at hij
        exact hI i j hi hj hij
  · obtain ⟨j, h1, h2, h3⟩ := key i hi
    have := hA j h1
    rw [h2, h3, xup_n (by omega), xup_n (by omega)]
    exact hC j h1
  · obtain ⟨j, h1, h2, h3⟩ := key i hi
    rw [h3]; exact hV j h1
set_option maxRecDepth 10000 in
set_option maxHeartbeats 1000000 in
theorem c_settle_loop (h0 : xHp) : ∀ (k : Nat) (h : xHp) (ad : Nat → Nat) (f : Nat → FD) (l2 : Option Value), k < 24 → h 5 = some (huC F E CB six) → xHf h ad f → (∀ j, j ≠ 6 → h j = h0 j) → xT xmX1_settle (2, 0, 0, 0, 0) 7 [some (.ref 5), some (zI k), l2] [] n h (fun r n' h' => r = none ∧ n' = n ∧ (∃ ad', xHf h' ad' (stR f k)) ∧ ∀ j, j ≠ 6 → h' j = h0 j) := by
  intro k
  induction k with
  | zero =>
    intro h ad f l2 hk h5 H ho
    refine tt_op rfl rfl ?_
    refine z_if rfl (by first | assumption | (unfold R3; omega)) (fun c => ?_) (fun c => absurd (by simp only [zcd] <;> omega) c)
    refine tt_return rfl rfl (Nat.le_of_ble_eq_true rfl) (Nat.le_of_ble_eq_true rfl) ?_
    exact ⟨rfl, rfl, ⟨ad, H⟩, ho⟩
  | succ k ih =>
    intro h ad f l2 hk h5 H ho
    have H' := H
    obtain ⟨⟨rd, h6, hrd⟩, hA, hI, hC, hV⟩ := H
    obtain ⟨o1, r1⟩ := hC (k + 1) hk
    obtain ⟨o2, r2⟩ := hC k (by omega)
    have v1 := (hV (k + 1) hk).2.2.2.2
    have v2 := (hV k (by omega)).2.2.2.2
    have hix : ((k + 1 : Nat) : Int) - 1 = (k : Int) := by omega
    unfold stR
    refine tt_op rfl rfl ?_
    refine z_if rfl (by first | assumption | (unfold R3; omega)) (fun c => absurd c (by simp only [zcd] <;> omega)) (fun c => ?_)
    refine tt_op rfl rfl ?_
    refine tt_op rfl rfl ?_
    refine z_icmp rfl (by first | assumption | (unfold R3; omega)) (by first | assumption | (unfold R3; omega)) (fun c => absurd c (by simp only [zcd] <;> omega)) (fun c => ?_)
    refine tt_op rfl rfl ?_
    refine tt_get rfl (by assumption) (by rfl) ?_
    refine tt_op rfl rfl ?_
    refine z_aald rfl h6 rfl hk (by decide) (hrd _ hk) ?_
    refine tt_op rfl rfl ?_
    refine tt_op rfl rfl ?_
    refine tt_op rfl rfl ?_
    refine tt_get rfl (by assumption) (by rfl) ?_
    refine tt_op rfl rfl ?_
    refine tt_op rfl rfl ?_
    refine z_isub rfl ?_
    refine z_aald rfl h6 hix (by omega) (by decide) (hrd k (by omega)) ?_
    refine tt_pV rfl rfl rfl o1 rfl (c_leads _ _ _ _ _ _ _ _ _ _ _ _ _ _ _ _ v1.1 v2.1 (fun i hi => by have := v1.2 i hi; unfold R3; omega) (fun i hi => by have := v2.2 i hi; unfold R3; omega) o1 o2 r1 r2) ?_
    have hE : ldR (fun k_1 => ((f (k + 1)).2.2.2.2.2 k_1 : Int)) (fun k_1 => ((f k).2.2.2.2.2 k_1 : Int)) (f (k + 1)).2.2.2.2.1 (f k).2.2.2.2.1 14 0 = fld (f (k + 1)) (f k) := rfl
    rw [hE]
    refine z_if rfl (by split <;> exact ⟨by decide, by decide⟩) (fun c1 => ?_) (fun c1 => ?_)
    · cases hx : fld (f (k + 1)) (f k) with
      | false => simp [zcd, hx] at c1
      | true =>
        refine tt_op rfl rfl ?_
        refine tt_get rfl (by assumption) (by rfl) ?_
        refine tt_op rfl rfl ?_
        refine tt_op rfl rfl ?_
        refine tt_get rfl (by assumption) (by rfl) ?_
        refine tt_op rfl rfl ?_
        refine tt_op rfl rfl ?_
        refine z_isub rfl ?_
        refine z_aald rfl h6 hix (by omega) (by decide) (hrd k (by omega)) ?_
        refine tt_aast rfl h6 (z3_in hk (by decide)) o2 ?_
        rw [z3_clamp (by omega)]
        have o1' : xup h 6 (zR 24 (va_up rd (k + 1) (some (ad k)))) (ad (k + 1)) = some (fdC (f (k + 1)) (ad (k + 1) + 1)) := by rw [xup_n (by have := hA (k + 1) hk; omega)]; exact o1
        have h5' : xup h 6 (zR 24 (va_up rd (k + 1) (some (ad k)))) 5 = some (huC F E CB six) := by rw [xup_n (by omega)]; exact h5
        refine tt_op rfl rfl ?_
        refine tt_get rfl (by assumption) (by rfl) ?_
        refine tt_op rfl rfl ?_
        refine tt_op rfl rfl ?_
        refine z_isub rfl ?_
        refine tt_op rfl rfl ?_
        rw [hix]
        refine tt_aast rfl xup_s (z3_in (show k < 24 by omega) (by decide)) o1' ?_
        rw [z3_clamp (by omega), xup_xup]
        refine z_iinc rfl rfl rfl ?_
        refine tt_goto rfl ?_
        rw [show ((k + 1 : Nat) : Int) + -1 = (k : Int) by omega]
        simp only [if_true]
        exact ih _ (sw2 ad k) (sw2 f k) _ (by omega) (by rw [xup_n (by omega)]; exact h5) (xHf_sw hk H' rd hrd) (fun j hj => by rw [xup_n hj]; exact ho j hj)
    · cases hx : fld (f (k + 1)) (f k) with
      | true => simp [zcd, hx] at c1
      | false =>
        refine tt_return rfl rfl (Nat.le_of_ble_eq_true rfl) (Nat.le_of_ble_eq_true rfl) ?_
        refine ⟨rfl, rfl, ⟨ad, ?_⟩, ho⟩
        simpa using H'
set_option maxRecDepth 10000 in
theorem c_settle (h5 : h 5 = some (huC F E CB six)) (H : xHf h ad f) (hF : 0 < F ∧ F ≤ 24) : xCall xmX1_settle 2 0 0 [.ref 5] n h (fun r n' h' => r = none ∧ n' = n ∧ (∃ ad', xHf h' ad' (stR f (F - 1))) ∧ ∀ j, j ≠ 6 → h' j = h j) := by
  refine xCall.of xgX1_settle rfl ?_
  refine tt_op rfl rfl ?_
  refine tt_get rfl (by assumption) (by rfl) ?_
  refine tt_op rfl rfl ?_
  refine z_isub rfl ?_
  refine tt_op rfl rfl ?_
  rw [show (F : Int) - 1 = ((F - 1 : Nat) : Int) by omega]
  exact c_settle_loop h (F - 1) h ad f none (by omega) h5 H (fun _ _ => rfl)
end HU
