/-! The class itself: middles, places, cuts, shadows, ways -/
theorem slQ_b {P : Nat → V3} {b b' : Nat → Nat} {d : V3} {z : Int} {p : Nat} (e : b p = b' p) : ∀ (k q : Nat) (s : Nat × (Nat → Int)), slQ P b d z p k q s = slQ P b' d z p k q s
  | 0, q, s => rfl
  | k + 1, q, s => by
    unfold slQ
    rw [e]
    exact slQ_b e k (q + 1) _
theorem slP_b {P : Nat → V3} {CB : Nat} {b b' : Nat → Nat} {d : V3} {z : Int} (e : ∀ j, j < 14 → b j = b' j) : ∀ (k p : Nat) (s : Nat × (Nat → Int)), p + k = 14 → slP P CB b d z k p s = slP P CB b' d z k p s
  | 0, p, s, hp => rfl
  | k + 1, p, s, hp => by
    unfold slP
    rw [slQ_b (e p (by omega))]
    exact slP_b e k (p + 1) _ (by omega)
theorem baR_b {b b' : Nat → Nat} {w : Nat} (e : ∀ j, j < 14 → b j = b' j) : ∀ (k i v : Nat), i + k = 14 → baR b w k i v = baR b' w k i v
  | 0, i, v, hi => rfl
  | k + 1, i, v, hi => by
    unfold baR
    rw [e i (by omega)]
    exact baR_b e k (i + 1) _ (by omega)
theorem spR_b {b b' : Nat → Nat} {to : Nat} (e : ∀ j, j < 14 → b j = b' j) : ∀ (k s w : Nat), spR b to k s w = spR b' to k s w
  | 0, s, w => rfl
  | k + 1, s, w => by
    unfold spR
    rw [baR_b e 14 0 0 rfl, spR_b e k]
theorem trR_len {P : Nat → V3} {d : V3} {S st : Nat} : ∀ (k s p : Nat) (row row' : Nat → Int) (me : Nat), (trR P d S st k s p row me).2 = (trR P d S st k s p row' me).2
  | 0, s, p, row, row', me => rfl
  | k + 1, s, p, row, row', me => by
    unfold trR
    split
    · rfl
    · exact trR_len k _ _ _ _ _
section SO3
variable {h : xHp} {m : Nat} {P : Nat → V3} {n : Nat} {F E CB : Nat} {six : Int} {ct : Nat × (Nat → Int)} {s : St}
set_option maxRecDepth 10000 in
theorem c_middle (H : xSt h m P ct s) (hv : 0 < (blF P m).1 → 0 < hSix P m) (x y : Int) (hx : R3 x) (hy : R3 y) : xPure xmX5_middle 100 [.ref 0, zI x, zI y] n h (zJ (if 0 < (blF P m).1 ∧ (0 ≤ x ∧ x ≤ 2) ∧ (y = 0 ∨ y = 1) then (if y = 0 then hMo P m x.toNat else 4 * hSix P m).tdiv (Int.gcd (hMo P m x.toNat) (4 * hSix P m)) else -1000000000000)) := by
  obtain ⟨h0, HC, HU, -⟩ := H
  have hsx := hu_six HC.2.2.2.2.2 HU
  obtain ⟨h5, hF, -, -, mo, h8, hmo⟩ := HU
  refine xCall.of xgX5_middle rfl ?_
  have no : ∀ l, xT xmX5_middle (100, 0, 0, 0, 0) 21 l [] n h (fun r n' h' => r = some (zJ (-1000000000000)) ∧ n' = n ∧ h' = h) := by
    intro l
    refine tt_op rfl rfl ?_
    refine tt_lreturn rfl rfl (Nat.le_of_ble_eq_true rfl) (Nat.le_of_ble_eq_true rfl) ?_
    exact ⟨rfl, rfl, rfl⟩
  refine tt_op rfl rfl ?_
  by_cases hp : 0 < (blF P m).1
  rotate_left
  · refine tt_pV rfl rfl rfl h0 rfl (c_stands_n h0 h5 hF hp) ?_
    rw [if_neg (fun z => hp z.1)]
    refine z_if rfl (by first | assumption | (unfold R3; omega)) (fun c => ?_) (fun c => absurd (by simp only [zcd] <;> omega) c)
    exact no _
  refine tt_pV rfl rfl rfl h0 rfl (c_stands_y h0 h5 hF hp) ?_
  refine z_if rfl (by first | assumption | (unfold R3; omega)) (fun c => absurd c (by simp only [zcd] <;> omega)) (fun c => ?_)
  refine tt_op rfl rfl ?_
  by_cases ha : 0 ≤ x ∧ x ≤ 2
  rotate_left
  · refine tt_pS rfl rfl rfl rfl (c_isAxis x hx (zI 0) (fun q => absurd q ha) (fun _ => rfl) _ _) ?_
    rw [if_neg (fun z => ha z.2.1)]
    refine z_if rfl (by first | assumption | (unfold R3; omega)) (fun c => ?_) (fun c => absurd (by simp only [zcd] <;> omega) c)
    exact no _
  refine tt_pS rfl rfl rfl rfl (c_isAxis x hx (zI 1) (fun _ => rfl) (fun q => absurd ha q) _ _) ?_
  refine z_if rfl (by first | assumption | (unfold R3; omega)) (fun c => absurd c (by simp only [zcd] <;> omega)) (fun c => ?_)
  refine tt_op rfl rfl ?_
  by_cases hq : y = 0 ∨ y = 1
  rotate_left
  · refine tt_pS rfl rfl rfl rfl (c_isPart y hy (zI 0) (fun q => absurd q hq) (fun _ => rfl) _ _) ?_
    rw [if_neg (fun z => hq z.2.2)]
    refine z_if rfl (by first | assumption | (unfold R3; omega)) (fun c => absurd c (by simp only [zcd] <;> omega)) (fun c => ?_)
    exact no _
  refine tt_pS rfl rfl rfl rfl (c_isPart y hy (zI 1) (fun _ => rfl) (fun q => absurd hq q) _ _) ?_
  rw [if_pos ⟨hp, ha, hq⟩]
  refine z_if rfl (by first | assumption | (unfold R3; omega)) (fun c => ?_) (fun c => absurd (by simp only [zcd] <;> omega) c)
  have hv' := hv hp
  have hb := hsx.2 x.toNat (by omega)
  have hb1 := hsx.1
  have e := hmo x.toNat (by omega)
  refine tt_op rfl rfl ?_
  refine tt_get rfl h0 (by rfl) ?_
  refine tt_get rfl h5 (by rfl) ?_
  refine tt_op rfl rfl ?_
  refine z_lald (j := x.toNat) rfl h8 (by omega) (by omega) (by decide) ?_
  rw [e]
  refine tt_op rfl rfl ?_
  refine tt_op rfl rfl ?_
  refine tt_get rfl (by assumption) (by rfl) ?_
  refine tt_get rfl (by assumption) (by rfl) ?_
  refine z_lmul rfl ?_
  refine tt_op rfl rfl ?_
  have ey : y = ((y.toNat : Nat) : Int) := by omega
  have fr := c_fraction (hMo P m x.toNat) (4 * hSix P m) y.toNat (by omega) (by omega) (by omega) n h
  rw [← ey] at fr
  refine tt_pS rfl rfl rfl rfl fr ?_
  refine tt_lreturn rfl rfl (Nat.le_of_ble_eq_true rfl) (Nat.le_of_ble_eq_true rfl) ?_
  rcases hq with rfl | rfl
  · exact ⟨rfl, rfl, rfl⟩
  · exact ⟨rfl, rfl, rfl⟩
set_option maxRecDepth 10000 in
theorem c_where (H : xSt h m P ct s) (x y z w : Int) (hx : R3 x) (hy : R3 y) (hz : R3 z) (hw : R3 w) : xPure xmX5_where 100 [.ref 0, zI x, zI y, zI z, zI w] n h (zI (if 0 < (blF P m).1 then (if (1 ≤ w ∧ w ≤ 1000) ∧ (-100000 ≤ x ∧ x ≤ 100000) ∧ (-100000 ≤ y ∧ y ≤ 100000) ∧ (-100000 ≤ z ∧ z ≤ 100000) then (plR (blF P m).2 (x, y, z) w (blF P m).1 0 2 : Int) else -2) else -3)) := by
  obtain ⟨h0, HC, ⟨h5, hF, ⟨ad, f, Hf, hfe⟩, -⟩, -⟩ := H
  refine xCall.of xgX5_where rfl ?_
  have no : ∀ l, xT xmX5_where (100, 0, 0, 0, 0) 54 l [] n h (fun r n' h' => r = some (zI (-2)) ∧ n' = n ∧ h' = h) := by
    intro l
    refine tt_op rfl rfl ?_
    refine tt_ireturn rfl rfl (by rfl) (Nat.le_of_ble_eq_true rfl) (Nat.le_of_ble_eq_true rfl) ?_
    exact ⟨rfl, rfl, rfl⟩
  have no2 : ∀ l, xT xmX5_where (100, 0, 0, 0, 0) 24 l [] n h (fun r n' h' => r = some (zI (-2)) ∧ n' = n ∧ h' = h) := by
    intro l
    refine tt_op rfl rfl ?_
    refine tt_ireturn rfl rfl (by rfl) (Nat.le_of_ble_eq_true rfl) (Nat.le_of_ble_eq_true rfl) ?_
    exact ⟨rfl, rfl, rfl⟩
  refine tt_op rfl rfl ?_
  by_cases hp : 0 < (blF P m).1
  rotate_left
  · refine tt_pV rfl rfl rfl h0 rfl (c_stands_n h0 h5 hF hp) ?_
    rw [if_neg hp]
    refine z_if rfl (by first | assumption | (unfold R3; omega)) (fun c => absurd c (by simp only [zcd] <;> omega)) (fun c => ?_)
    refine tt_op rfl rfl ?_
    refine tt_ireturn rfl rfl (by rfl) (Nat.le_of_ble_eq_true rfl) (Nat.le_of_ble_eq_true rfl) ?_
    exact ⟨rfl, rfl, rfl⟩
  refine tt_pV rfl rfl rfl h0 rfl (c_stands_y h0 h5 hF hp) ?_
  rw [if_pos hp]
  refine z_if rfl (by first | assumption | (unfold R3; omega)) (fun c => ?_) (fun c => absurd (by simp only [zcd] <;> omega) c)
  refine tt_op rfl rfl ?_
  refine tt_op rfl rfl ?_
  refine z_icmp rfl (by first | assumption | (unfold R3; omega)) (by first | assumption | (unfold R3; omega)) (fun c1 => ?_) (fun c1 => ?_)
  · simp only [zcd] at c1
    rw [if_neg (by omega)]
    exact no2 _
  simp only [zcd] at c1
  refine tt_op rfl rfl ?_
  refine tt_op rfl rfl ?_
  refine z_icmp rfl (by first | assumption | (unfold R3; omega)) (by first | assumption | (unfold R3; omega)) (fun c2 => ?_) (fun c2 => ?_)
  rotate_left
  · simp only [zcd] at c2
    rw [if_neg (by omega)]
    exact no2 _
  simp only [zcd] at c2
  refine tt_op rfl rfl ?_
  refine tt_op rfl rfl ?_
  by_cases x1 : zwi x 100000
  rotate_left
  · refine tt_pS rfl rfl rfl rfl (c_within x 100000 hx (by omega) (zI 0) (fun q => absurd q x1) (fun _ => rfl) _ _) ?_
    rw [if_neg (fun q => x1 q.2.1)]
    refine z_if rfl (by first | assumption | (unfold R3; omega)) (fun c => ?_) (fun c => absurd (by simp only [zcd] <;> omega) c)
    exact no _
  refine tt_pS rfl rfl rfl rfl (c_within x 100000 hx (by omega) (zI 1) (fun _ => rfl) (fun q => absurd x1 q) _ _) ?_
  refine z_if rfl (by first | assumption | (unfold R3; omega)) (fun c => absurd c (by simp only [zcd] <;> omega)) (fun c => ?_)
  refine tt_op rfl rfl ?_
  refine tt_op rfl rfl ?_
  by_cases x2 : zwi y 100000
  rotate_left
  · refine tt_pS rfl rfl rfl rfl (c_within y 100000 hy (by omega) (zI 0) (fun q => absurd q x2) (fun _ => rfl) _ _) ?_
    rw [if_neg (fun q => x2 q.2.2.1)]
    refine z_if rfl (by first | assumption | (unfold R3; omega)) (fun c => ?_) (fun c => absurd (by simp only [zcd] <;> omega) c)
    exact no _
  refine tt_pS rfl rfl rfl rfl (c_within y 100000 hy (by omega) (zI 1) (fun _ => rfl) (fun q => absurd x2 q) _ _) ?_
  refine z_if rfl (by first | assumption | (unfold R3; omega)) (fun c => absurd c (by simp only [zcd] <;> omega)) (fun c => ?_)
  refine tt_op rfl rfl ?_
  refine tt_op rfl rfl ?_
  by_cases x3 : zwi z 100000
  rotate_left
  · refine tt_pS rfl rfl rfl rfl (c_within z 100000 hz (by omega) (zI 0) (fun q => absurd q x3) (fun _ => rfl) _ _) ?_
    rw [if_neg (fun q => x3 q.2.2.2)]
    refine z_if rfl (by first | assumption | (unfold R3; omega)) (fun c => absurd c (by simp only [zcd] <;> omega)) (fun c => ?_)
    exact no _
  refine tt_pS rfl rfl rfl rfl (c_within z 100000 hz (by omega) (zI 1) (fun _ => rfl) (fun q => absurd x3 q) _ _) ?_
  rw [if_pos ⟨by omega, x1, x2, x3⟩]
  refine z_if rfl (by first | assumption | (unfold R3; omega)) (fun c => ?_) (fun c => absurd (by simp only [zcd] <;> omega) c)
  refine tt_op rfl rfl ?_
  refine tt_get rfl (by assumption) (by rfl) ?_
  refine tt_op rfl rfl ?_
  refine z_il rfl (by first | assumption | (unfold R3; omega)) ?_
  refine tt_op rfl rfl ?_
  refine z_il rfl (by first | assumption | (unfold R3; omega)) ?_
  refine tt_op rfl rfl ?_
  refine z_il rfl (by first | assumption | (unfold R3; omega)) ?_
  refine tt_op rfl rfl ?_
  refine z_il rfl (by first | assumption | (unfold R3; omega)) ?_
  refine tt_pV rfl rfl rfl h5 rfl (c_place h5 Hf hF (x, y, z) w ⟨x1, x2, x3⟩ (by omega)) ?_
  rw [plR_fe (f := f) (g := (blF P m).2) (blF P m).1 0 2 (fun j hj => hfe j (by omega))]
  refine tt_ireturn rfl rfl (by rfl) (Nat.le_of_ble_eq_true rfl) (Nat.le_of_ble_eq_true rfl) ?_
  exact ⟨rfl, rfl, rfl⟩
/-- the section is another one -/
theorem st_se (H : xSt h m P ct s) {c' : Nat × (Nat → Int)} (hc : sOk c') : xSt (seH h c') m P c' s ∧ ∀ j, 64 ≤ j → seH h c' j = h j := by
  obtain ⟨h0, HC, HU, ⟨h57, h58, -⟩, ⟨hmo, hs⟩, d, lv, se, me, le, row, h62, h63⟩ := H
  obtain ⟨h59, h60, h61⟩ := moH_of hmo
  obtain ⟨u5, uF, ⟨ad, f, Hf, hfe⟩, ⟨b, u7, ub⟩, mo, u8, umo⟩ := HU
  have g : ∀ j, j ≠ 57 → j ≠ 58 → seH h c' j = h j := fun j a b => seH_n a b
  refine ⟨⟨?_, xCl_se HC, ⟨?_, uF, ⟨ad, f, xHf_up (by omega) (xHf_up (by omega) Hf), hfe⟩, ⟨b, ?_, ub⟩, mo, ?_, umo⟩, ⟨xup_s, ?_, hc⟩, ⟨moH_self ?_ ?_ ?_, hs⟩, d, lv, se, me, le, row, ?_, ?_⟩, fun j hj => g j (by omega) (by omega)⟩
  · rw [g 0 (by omega) (by omega)]; exact h0
  · rw [g 5 (by omega) (by omega)]; exact u5
  · rw [g 7 (by omega) (by omega)]; exact u7
  · rw [g 8 (by omega) (by omega)]; exact u8
  · show xup (xup h 58 (zL 96 c'.2)) 57 (seC c'.1) 58 = _
    rw [xup_n (by omega)]; exact xup_s
  · rw [g 59 (by omega) (by omega)]; exact h59
  · rw [g 60 (by omega) (by omega)]; exact h60
  · rw [g 61 (by omega) (by omega)]; exact h61
  · rw [g 62 (by omega) (by omega)]; exact h62
  · rw [g 63 (by omega) (by omega)]; exact h63
/-- what a cut leaves -/
noncomputable def cuS (P : Nat → V3) (m : Nat) (d : V3) (z : Int) (N : Nat → Int) : Nat × (Nat → Int) := slP P (hCB P m) (hBs P m) d z 14 0 (0, N)
set_option maxRecDepth 10000 in
set_option maxHeartbeats 1000000 in
theorem c_cut (H : xSt h m P ct s) (x y z w : Int) (hx : R3 x) (hy : R3 y) (hz : R3 z) (hw : R3 w) : xCall xmX5_cut 100 0 0 [.ref 0, zI x, zI y, zI z, zI w] n h (fun r n' h' => n' = n ∧ ((¬ 0 < (blF P m).1 ∧ r = some (zI (-3)) ∧ h' = h) ∨ (0 < (blF P m).1 ∧ ¬ (isDir x y z ∧ zwi w 2000) ∧ r = some (zI (-2)) ∧ h' = h) ∨ (0 < (blF P m).1 ∧ (isDir x y z ∧ zwi w 2000) ∧ r = some (zI (cuS P m (x, y, z) w ct.2).1) ∧ xSt h' m P (cuS P m (x, y, z) w ct.2) s ∧ ∀ j, 64 ≤ j → h' j = h j))) := by
  have H' := H
  have hbd := hu_bd H.2.2.1
  obtain ⟨h0, HC, ⟨h5, hF, -, ⟨b, h7, hb7⟩, -⟩, ⟨h57, h58, hc⟩, -⟩ := H
  refine xCall.of xgX5_cut rfl ?_
  have no : ∀ l, 0 < (blF P m).1 → ¬ (isDir x y z ∧ zwi w 2000) → xT xmX5_cut (100, 0, 0, 0, 0) 30 l [] n h (fun r n' h' => n' = n ∧ ((¬ 0 < (blF P m).1 ∧ r = some (zI (-3)) ∧ h' = h) ∨ (0 < (blF P m).1 ∧ ¬ (isDir x y z ∧ zwi w 2000) ∧ r = some (zI (-2)) ∧ h' = h) ∨ (0 < (blF P m).1 ∧ (isDir x y z ∧ zwi w 2000) ∧ r = some (zI (cuS P m (x, y, z) w ct.2).1) ∧ xSt h' m P (cuS P m (x, y, z) w ct.2) s ∧ ∀ j, 64 ≤ j → h' j = h j))) := by
    intro l h1 h2
    refine tt_op rfl rfl ?_
    refine tt_ireturn rfl rfl (by rfl) (Nat.le_of_ble_eq_true rfl) (Nat.le_of_ble_eq_true rfl) ?_
    exact ⟨rfl, Or.inr (Or.inl ⟨h1, h2, rfl, rfl⟩)⟩
  refine tt_op rfl rfl ?_
  by_cases hp : 0 < (blF P m).1
  rotate_left
  · refine tt_pV rfl rfl rfl h0 rfl (c_stands_n h0 h5 hF hp) ?_
    refine z_if rfl (by first | assumption | (unfold R3; omega)) (fun c => absurd c (by simp only [zcd] <;> omega)) (fun c => ?_)
    refine tt_op rfl rfl ?_
    refine tt_ireturn rfl rfl (by rfl) (Nat.le_of_ble_eq_true rfl) (Nat.le_of_ble_eq_true rfl) ?_
    exact ⟨rfl, Or.inl ⟨hp, rfl, rfl⟩⟩
  refine tt_pV rfl rfl rfl h0 rfl (c_stands_y h0 h5 hF hp) ?_
  refine z_if rfl (by first | assumption | (unfold R3; omega)) (fun c => ?_) (fun c => absurd (by simp only [zcd] <;> omega) c)
  refine tt_op rfl rfl ?_
  refine tt_op rfl rfl ?_
  refine tt_op rfl rfl ?_
  by_cases x1 : isDir x y z
  rotate_left
  · refine tt_pS rfl rfl rfl rfl (c_isDir x y z hx hy hz (zI 0) (fun q => absurd q x1) (fun _ => rfl) _ _) ?_
    refine z_if rfl (by first | assumption | (unfold R3; omega)) (fun c => ?_) (fun c => absurd (by simp only [zcd] <;> omega) c)
    exact no _ hp (fun q => x1 q.1)
  refine tt_pS rfl rfl rfl rfl (c_isDir x y z hx hy hz (zI 1) (fun _ => rfl) (fun q => absurd x1 q) _ _) ?_
  refine z_if rfl (by first | assumption | (unfold R3; omega)) (fun c => absurd c (by simp only [zcd] <;> omega)) (fun c => ?_)
  refine tt_op rfl rfl ?_
  refine tt_op rfl rfl ?_
  by_cases x2 : zwi w 2000
  rotate_left
  · refine tt_pS rfl rfl rfl rfl (c_within w 2000 hw (by omega) (zI 0) (fun q => absurd q x2) (fun _ => rfl) _ _) ?_
    refine z_if rfl (by first | assumption | (unfold R3; omega)) (fun c => absurd c (by simp only [zcd] <;> omega)) (fun c => ?_)
    exact no _ hp (fun q => x2 q.2)
  refine tt_pS rfl rfl rfl rfl (c_within w 2000 hw (by omega) (zI 1) (fun _ => rfl) (fun q => absurd x2 q) _ _) ?_
  refine z_if rfl (by first | assumption | (unfold R3; omega)) (fun c => ?_) (fun c => absurd (by simp only [zcd] <;> omega) c)
  refine tt_op rfl rfl ?_
  refine tt_get rfl (by assumption) (by rfl) ?_
  refine tt_op rfl rfl ?_
  refine tt_get rfl (by assumption) (by rfl) ?_
  refine tt_op rfl rfl ?_
  refine z_il rfl (by first | assumption | (unfold R3; omega)) ?_
  refine tt_op rfl rfl ?_
  refine z_il rfl (by first | assumption | (unfold R3; omega)) ?_
  refine tt_op rfl rfl ?_
  refine z_il rfl (by first | assumption | (unfold R3; omega)) ?_
  refine tt_op rfl rfl ?_
  refine z_il rfl (by first | assumption | (unfold R3; omega)) ?_
  have hb' : ∀ j, j < 14 → b j < 16384 := fun j hj => by rw [hb7 j hj]; exact hbd.2.2 j hj
  refine tt_callV (M' := xmX4_slice) rfl rfl rfl h57 rfl (c_slice HC h5 hbd.1 b h7 hb' (x, y, z) x1.2 w x2 h57 h58 hc.2) ?_
  rw [slP_b (b' := hBs P m) hb7 14 0 _ rfl]
  rintro r n' h' ⟨rfl, rfl, rfl, hok⟩
  obtain ⟨S2, o2⟩ := st_se H' hok
  have g0 := S2.1
  have g57 := S2.2.2.2.1.1
  refine tt_op rfl rfl ?_
  refine tt_get rfl g0 (by rfl) ?_
  refine tt_get rfl g57 (by rfl) ?_
  refine tt_ireturn rfl rfl (by rfl) (Nat.le_of_ble_eq_true rfl) (Nat.le_of_ble_eq_true rfl) ?_
  exact ⟨rfl, Or.inr (Or.inr ⟨hp, ⟨x1, x2⟩, rfl, S2, o2⟩)⟩
set_option maxRecDepth 10000 in
theorem c_cutAt (H : xSt h m P ct s) (hpos : ∀ i, i < ct.1 → 0 < ct.2 (4 * i + 3)) (x y z : Int) (hx : R3 x) (hy : R3 y) (hz : R3 z) : xPure xmX5_cutAt 100 [.ref 0, zI x, zI y, zI z] n h (zJ (if (0 ≤ x ∧ x < ct.1) ∧ (0 ≤ y ∧ y ≤ 2) ∧ (z = 0 ∨ z = 1) then (if z = 0 then ct.2 (4 * x.toNat + y.toNat) else ct.2 (4 * x.toNat + 3)).tdiv (Int.gcd (ct.2 (4 * x.toNat + y.toNat)) (ct.2 (4 * x.toNat + 3))) else -1000000000000)) := by
  obtain ⟨h0, HC, HU, ⟨h57, h58, hc1, hc2⟩, -⟩ := H
  refine xCall.of xgX5_cutAt rfl ?_
  have no : ∀ l, xT xmX5_cutAt (100, 0, 0, 0, 0) 29 l [] n h (fun r n' h' => r = some (zJ (-1000000000000)) ∧ n' = n ∧ h' = h) := by
    intro l
    refine tt_op rfl rfl ?_
    refine tt_lreturn rfl rfl (Nat.le_of_ble_eq_true rfl) (Nat.le_of_ble_eq_true rfl) ?_
    exact ⟨rfl, rfl, rfl⟩
  refine tt_op rfl rfl ?_
  refine z_if rfl (by first | assumption | (unfold R3; omega)) (fun c1 => ?_) (fun c1 => ?_)
  · simp only [zcd] at c1
    rw [if_neg (by omega)]
    exact no _
  simp only [zcd] at c1
  refine tt_op rfl rfl ?_
  refine tt_op rfl rfl ?_
  refine tt_get rfl (by assumption) (by rfl) ?_
  refine tt_get rfl (by assumption) (by rfl) ?_
  refine z_icmp rfl (by first | assumption | (unfold R3; omega)) (by first | assumption | (unfold R3; omega)) (fun c2 => ?_) (fun c2 => ?_)
  · simp only [zcd] at c2
    rw [if_neg (by omega)]
    exact no _
  simp only [zcd] at c2
  refine tt_op rfl rfl ?_
  by_cases ha : 0 ≤ y ∧ y ≤ 2
  rotate_left
  · refine tt_pS rfl rfl rfl rfl (c_isAxis y hy (zI 0) (fun q => absurd q ha) (fun _ => rfl) _ _) ?_
    rw [if_neg (fun z => ha z.2.1)]
    refine z_if rfl (by first | assumption | (unfold R3; omega)) (fun c => ?_) (fun c => absurd (by simp only [zcd] <;> omega) c)
    exact no _
  refine tt_pS rfl rfl rfl rfl (c_isAxis y hy (zI 1) (fun _ => rfl) (fun q => absurd ha q) _ _) ?_
  refine z_if rfl (by first | assumption | (unfold R3; omega)) (fun c => absurd c (by simp only [zcd] <;> omega)) (fun c => ?_)
  refine tt_op rfl rfl ?_
  by_cases hq : z = 0 ∨ z = 1
  rotate_left
  · refine tt_pS rfl rfl rfl rfl (c_isPart z hz (zI 0) (fun q => absurd q hq) (fun _ => rfl) _ _) ?_
    rw [if_neg (fun z => hq z.2.2)]
    refine z_if rfl (by first | assumption | (unfold R3; omega)) (fun c => absurd c (by simp only [zcd] <;> omega)) (fun c => ?_)
    exact no _
  refine tt_pS rfl rfl rfl rfl (c_isPart z hz (zI 1) (fun _ => rfl) (fun q => absurd hq q) _ _) ?_
  rw [if_pos ⟨by omega, ha, hq⟩]
  refine z_if rfl (by first | assumption | (unfold R3; omega)) (fun c => ?_) (fun c => absurd (by simp only [zcd] <;> omega) c)
  have ex : x = ((x.toNat : Nat) : Int) := by omega
  have ey : y = ((y.toNat : Nat) : Int) := by omega
  have ez : z = ((z.toNat : Nat) : Int) := by omega
  have b1 := hc2 (4 * x.toNat + y.toNat) (by omega)
  have b2 := hc2 (4 * x.toNat + 3) (by omega)
  have b3 := hpos x.toNat (by omega)
  have s1 := c_snum (n := n) h57 h58 x.toNat y.toNat (by omega) (by omega)
  have s2 := c_snum (n := n) h57 h58 x.toNat 3 (by omega) (by omega)
  have s3 := c_fraction (ct.2 (4 * x.toNat + y.toNat)) (ct.2 (4 * x.toNat + 3)) z.toNat (by omega) (by omega) (by omega) n h
  rw [← ex, ← ey] at s1
  rw [← ex] at s2
  rw [← ez] at s3
  refine tt_op rfl rfl ?_
  refine tt_get rfl (by assumption) (by rfl) ?_
  refine tt_op rfl rfl ?_
  refine tt_op rfl rfl ?_
  refine tt_pV rfl rfl rfl h57 rfl s1 ?_
  refine tt_op rfl rfl ?_
  refine tt_get rfl (by assumption) (by rfl) ?_
  refine tt_op rfl rfl ?_
  refine tt_op rfl rfl ?_
  refine tt_pV rfl rfl rfl h57 rfl s2 ?_
  refine tt_op rfl rfl ?_
  refine tt_pS rfl rfl rfl rfl s3 ?_
  refine tt_lreturn rfl rfl (Nat.le_of_ble_eq_true rfl) (Nat.le_of_ble_eq_true rfl) ?_
  rcases hq with rfl | rfl
  · exact ⟨rfl, rfl, rfl⟩
  · exact ⟨rfl, rfl, rfl⟩
/-- how many corners a shadow has -/
def shL (P : Nat → V3) (d : V3) (S : Nat) : Nat := (trR P d S (rmF P d S) 14 0 (rmF P d S) (fun _ => 0) 0).2.2
theorem st_sh (H : xSt h m P ct s) (d : V3) (lv : Int) (se me le : Nat) (row : Nat → Int) : xSt (xup (xup h 63 (zA 14 row)) 62 (oC d lv se me le 63)) m P ct s ∧ ∀ j, 64 ≤ j → xup (xup h 63 (zA 14 row)) 62 (oC d lv se me le 63) j = h j := by
  obtain ⟨h0, HC, HU, ⟨h57, h58, hc⟩, ⟨hmo, hs⟩, -⟩ := H
  obtain ⟨h59, h60, h61⟩ := moH_of hmo
  obtain ⟨u5, uF, ⟨ad, f, Hf, hfe⟩, ⟨b, u7, ub⟩, mo, u8, umo⟩ := HU
  have g : ∀ j, j ≠ 62 → j ≠ 63 → xup (xup h 63 (zA 14 row)) 62 (oC d lv se me le 63) j = h j := fun j a b => by rw [xup_n a, xup_n b]
  refine ⟨⟨?_, xCl_up (by omega) (xCl_up (by omega) HC), ⟨?_, uF, ⟨ad, f, xHf_up (by omega) (xHf_up (by omega) Hf), hfe⟩, ⟨b, ?_, ub⟩, mo, ?_, umo⟩, ⟨?_, ?_, hc⟩, ⟨moH_self ?_ ?_ ?_, hs⟩, d, lv, se, me, le, row, xup_s, ?_⟩, fun j hj => g j (by omega) (by omega)⟩
  · rw [g 0 (by omega) (by omega)]; exact h0
  · rw [g 5 (by omega) (by omega)]; exact u5
  · rw [g 7 (by omega) (by omega)]; exact u7
  · rw [g 8 (by omega) (by omega)]; exact u8
  · rw [g 57 (by omega) (by omega)]; exact h57
  · rw [g 58 (by omega) (by omega)]; exact h58
  · rw [g 59 (by omega) (by omega)]; exact h59
  · rw [g 60 (by omega) (by omega)]; exact h60
  · rw [g 61 (by omega) (by omega)]; exact h61
  · rw [xup_n (by omega)]; exact xup_s
set_option maxRecDepth 10000 in
set_option maxHeartbeats 1000000 in
theorem c_shadow (H : xSt h m P ct s) (hne : 0 < (blF P m).1 → 0 < hCB P m) (x y z : Int) (hx : R3 x) (hy : R3 y) (hz : R3 z) : xCall xmX5_shadow 100 0 0 [.ref 0, zI x, zI y, zI z] n h (fun r n' h' => n' = n ∧ ((¬ 0 < (blF P m).1 ∧ r = some (zI (-3)) ∧ h' = h) ∨ (0 < (blF P m).1 ∧ ¬ isDir x y z ∧ r = some (zI (-2)) ∧ h' = h) ∨ (0 < (blF P m).1 ∧ isDir x y z ∧ r = some (zI (shL P (x, y, z) (hCB P m))) ∧ xSt h' m P ct s ∧ ∀ j, 64 ≤ j → h' j = h j))) := by
  have H' := H
  have hbd := hu_bd H.2.2.1
  obtain ⟨h0, HC, ⟨h5, hF, -⟩, -, -, d, lv, se, me, le, row, h62, h63⟩ := H
  refine xCall.of xgX5_shadow rfl ?_
  refine tt_op rfl rfl ?_
  by_cases hp : 0 < (blF P m).1
  rotate_left
  · refine tt_pV rfl rfl rfl h0 rfl (c_stands_n h0 h5 hF hp) ?_
    refine z_if rfl (by first | assumption | (unfold R3; omega)) (fun c => absurd c (by simp only [zcd] <;> omega)) (fun c => ?_)
    refine tt_op rfl rfl ?_
    refine tt_ireturn rfl rfl (by rfl) (Nat.le_of_ble_eq_true rfl) (Nat.le_of_ble_eq_true rfl) ?_
    exact ⟨rfl, Or.inl ⟨hp, rfl, rfl⟩⟩
  refine tt_pV rfl rfl rfl h0 rfl (c_stands_y h0 h5 hF hp) ?_
  refine z_if rfl (by first | assumption | (unfold R3; omega)) (fun c => ?_) (fun c => absurd (by simp only [zcd] <;> omega) c)
  refine tt_op rfl rfl ?_
  refine tt_op rfl rfl ?_
  refine tt_op rfl rfl ?_
  by_cases x1 : isDir x y z
  rotate_left
  · refine tt_pS rfl rfl rfl rfl (c_isDir x y z hx hy hz (zI 0) (fun q => absurd q x1) (fun _ => rfl) _ _) ?_
    refine z_if rfl (by first | assumption | (unfold R3; omega)) (fun c => absurd c (by simp only [zcd] <;> omega)) (fun c => ?_)
    refine tt_op rfl rfl ?_
    refine tt_ireturn rfl rfl (by rfl) (Nat.le_of_ble_eq_true rfl) (Nat.le_of_ble_eq_true rfl) ?_
    exact ⟨rfl, Or.inr (Or.inl ⟨hp, x1, rfl, rfl⟩)⟩
  refine tt_pS rfl rfl rfl rfl (c_isDir x y z hx hy hz (zI 1) (fun _ => rfl) (fun q => absurd x1 q) _ _) ?_
  refine z_if rfl (by first | assumption | (unfold R3; omega)) (fun c => ?_) (fun c => absurd (by simp only [zcd] <;> omega) c)
  refine tt_op rfl rfl ?_
  refine tt_get rfl (by assumption) (by rfl) ?_
  refine tt_op rfl rfl ?_
  refine z_il rfl (by first | assumption | (unfold R3; omega)) ?_
  refine tt_op rfl rfl ?_
  refine z_il rfl (by first | assumption | (unfold R3; omega)) ?_
  refine tt_op rfl rfl ?_
  refine z_il rfl (by first | assumption | (unfold R3; omega)) ?_
  refine tt_op rfl rfl ?_
  refine tt_get rfl (by assumption) (by rfl) ?_
  refine tt_get rfl (by assumption) (by rfl) ?_
  refine tt_callV (M' := xmX3_look) rfl rfl rfl h62 rfl (c_look 62 d (x, y, z) lv se (hCB P m) me le 63 h62) ?_
  rintro r n' h' ⟨rfl, rfl, rfl⟩
  have hd : vbd 3200 (x, y, z) := vbd_le (A := 20) x1.2 (by omega)
  have K := xCl_up (e := oC (x, y, z) lv (hCB P m) me le 63) (show 5 ≤ 62 by omega) HC
  have g0 : xup h 62 (oC (x, y, z) lv (hCB P m) me le 63) 0 = some soC := by rw [xup_n (by omega)]; exact h0
  have g63 : xup h 62 (oC (x, y, z) lv (hCB P m) me le 63) 63 = some (zA 14 row) := by rw [xup_n (by omega)]; exact h63
  have g62 : xup h 62 (oC (x, y, z) lv (hCB P m) me le 63) 62 = _ := xup_s
  refine tt_op rfl rfl ?_
  refine tt_get rfl (by assumption) (by rfl) ?_
  refine tt_op rfl rfl ?_
  refine tt_get rfl (by assumption) (by rfl) ?_
  refine tt_pV rfl rfl rfl g62 rfl (c_rim K 62 (x, y, z) lv (hCB P m) me le 63 hbd.1 (hne hp) hd g62) ?_
  refine tt_callV (M' := xmX3_trace) rfl rfl rfl g62 rfl (c_trace K 62 (by omega) (x, y, z) lv (hCB P m) me le 63 (rmF P (x, y, z) (hCB P m)) row (by omega) (by omega) hbd.1 (rmF_lt hbd.1 (hne hp)) hd g62 g63) ?_
  rintro r n' h' ⟨rfl, rfl, rfl⟩
  rw [xup_comm (show (62 : Nat) ≠ 63 by omega), xup_xup]
  obtain ⟨S2, o2⟩ := st_sh H' (x, y, z) lv (hCB P m) (trR P (x, y, z) (hCB P m) (rmF P (x, y, z) (hCB P m)) 14 0 (rmF P (x, y, z) (hCB P m)) row 0).2.1 (trR P (x, y, z) (hCB P m) (rmF P (x, y, z) (hCB P m)) 14 0 (rmF P (x, y, z) (hCB P m)) row 0).2.2 (trR P (x, y, z) (hCB P m) (rmF P (x, y, z) (hCB P m)) 14 0 (rmF P (x, y, z) (hCB P m)) row 0).1
  have a0 := S2.1
  refine tt_op rfl rfl ?_
  refine tt_get rfl a0 (by rfl) ?_
  refine tt_get rfl xup_s (by rfl) ?_
  refine tt_ireturn rfl rfl (by rfl) (Nat.le_of_ble_eq_true rfl) (Nat.le_of_ble_eq_true rfl) ?_
  refine ⟨rfl, Or.inr (Or.inr ⟨hp, x1, ?_, S2, o2⟩)⟩
  unfold shL
  rw [trR_len 14 0 _ row (fun _ => 0) 0]
end SO3
