/-! The class itself: far, way, motions -/
section SO4
variable {h : xHp} {m : Nat} {P : Nat → V3} {n : Nat} {F E CB : Nat} {six : Int} {ct : Nat × (Nat → Int)} {s : St}
theorem gtR_bd (hb : pbd P) (CB : Nat) {d : V3} (hd : vbd 20 d) : ∀ (k i : Nat) (w : Int), i + k = 14 → (-1000000000000 ≤ w ∧ w ≤ 1000000000000) → -1000000000000 ≤ gtR P CB d k i w ∧ gtR P CB d k i w ≤ 1000000000000
  | 0, i, w, hi, hw => hw
  | k + 1, i, w, hi, hw => by
    unfold gtR
    refine gtR_bd hb CB hd k (i + 1) _ (by omega) ?_
    have := dot_bd hd (hb i (by omega))
    split
    · split
      · exact hw
      · omega
    · exact hw
theorem caR_bd (CB : Nat) (d : V3) (z : Int) : ∀ (k i w : Nat), i + k = 14 → w < 16384 → caR P CB d z k i w < 16384
  | 0, i, w, hi, hw => hw
  | k + 1, i, w, hi, hw => by
    unfold caR
    refine caR_bd CB d z k (i + 1) _ (by omega) ?_
    split
    · exact bits_or hw (bits_pow (by omega))
    · exact hw
set_option maxRecDepth 10000 in
theorem c_far (H : xSt h m P ct s) (x y z w : Int) (hx : R3 x) (hy : R3 y) (hz : R3 z) (hw : R3 w) (v : Value)
    (hv1 : 0 < (blF P m).1 ∧ isDir x y z ∧ w = 0 → v = zJ (gtR P (hCB P m) (x, y, z) 14 0 (-1000000000000)))
    (hv2 : 0 < (blF P m).1 ∧ isDir x y z ∧ w = 1 → v = zJ (caR P (hCB P m) (x, y, z) (gtR P (hCB P m) (x, y, z) 14 0 (-1000000000000)) 14 0 0))
    (hv0 : ¬ (0 < (blF P m).1 ∧ isDir x y z ∧ (w = 0 ∨ w = 1)) → v = zJ (-1000000000000)) : xPure xmX5_far 100 [.ref 0, zI x, zI y, zI z, zI w] n h v := by
  have hbd := hu_bd H.2.2.1
  obtain ⟨h0, HC, ⟨h5, hF, -⟩, -⟩ := H
  refine xCall.of xgX5_far rfl ?_
  have no : ∀ l, ¬ (0 < (blF P m).1 ∧ isDir x y z ∧ (w = 0 ∨ w = 1)) → xT xmX5_far (100, 0, 0, 0, 0) 27 l [] n h (fun r n' h' => r = some v ∧ n' = n ∧ h' = h) := by
    intro l hn
    rw [hv0 hn]
    refine tt_op rfl rfl ?_
    refine tt_lreturn rfl rfl (Nat.le_of_ble_eq_true rfl) (Nat.le_of_ble_eq_true rfl) ?_
    exact ⟨rfl, rfl, rfl⟩
  refine tt_op rfl rfl ?_
  by_cases hp : 0 < (blF P m).1
  rotate_left
  · refine tt_pV rfl rfl rfl h0 rfl (c_stands_n h0 h5 hF hp) ?_
    refine z_if rfl (by first | assumption | (unfold R3; omega)) (fun c => ?_) (fun c => absurd (by simp only [zcd] <;> omega) c)
    exact no _ (fun q => hp q.1)
  refine tt_pV rfl rfl rfl h0 rfl (c_stands_y h0 h5 hF hp) ?_
  refine z_if rfl (by first | assumption | (unfold R3; omega)) (fun c => absurd c (by simp only [zcd] <;> omega)) (fun c => ?_)
  refine tt_op rfl rfl ?_
  refine tt_op rfl rfl ?_
  refine tt_op rfl rfl ?_
  by_cases x1 : isDir x y z
  rotate_left
  · refine tt_pS rfl rfl rfl rfl (c_isDir x y z hx hy hz (zI 0) (fun q => absurd q x1) (fun _ => rfl) _ _) ?_
    refine z_if rfl (by first | assumption | (unfold R3; omega)) (fun c => ?_) (fun c => absurd (by simp only [zcd] <;> omega) c)
    exact no _ (fun q => x1 q.2.1)
  refine tt_pS rfl rfl rfl rfl (c_isDir x y z hx hy hz (zI 1) (fun _ => rfl) (fun q => absurd x1 q) _ _) ?_
  refine z_if rfl (by first | assumption | (unfold R3; omega)) (fun c => absurd c (by simp only [zcd] <;> omega)) (fun c => ?_)
  refine tt_op rfl rfl ?_
  refine z_if rfl (by first | assumption | (unfold R3; omega)) (fun c1 => ?_) (fun c1 => ?_)
  · simp only [zcd] at c1
    exact no _ (fun q => by have := q.2.2; omega)
  simp only [zcd] at c1
  refine tt_op rfl rfl ?_
  refine tt_op rfl rfl ?_
  refine z_icmp rfl (by first | assumption | (unfold R3; omega)) (by first | assumption | (unfold R3; omega)) (fun c2 => ?_) (fun c2 => ?_)
  rotate_left
  · simp only [zcd] at c2
    exact no _ (fun q => by have := q.2.2; omega)
  simp only [zcd] at c2
  have hg := gtR_bd HC.2.2.2.2.2 (hCB P m) (d := (x, y, z)) x1.2 14 0 (-1000000000000) rfl ⟨by omega, by omega⟩
  have hk := caR_bd (P := P) (hCB P m) (x, y, z) (gtR P (hCB P m) (x, y, z) 14 0 (-1000000000000)) 14 0 0 rfl (by decide)
  refine tt_op rfl rfl ?_
  refine tt_get rfl (by assumption) (by rfl) ?_
  refine tt_op rfl rfl ?_
  refine z_il rfl (by first | assumption | (unfold R3; omega)) ?_
  refine tt_op rfl rfl ?_
  refine z_il rfl (by first | assumption | (unfold R3; omega)) ?_
  refine tt_op rfl rfl ?_
  refine z_il rfl (by first | assumption | (unfold R3; omega)) ?_
  refine tt_pV rfl rfl rfl h5 rfl (c_greatest HC h5 hbd.1 (x, y, z) x1.2) ?_
  refine tt_op rfl rfl ?_
  refine tt_op rfl rfl ?_
  refine z_if rfl (by first | assumption | (unfold R3; omega)) (fun c3 => ?_) (fun c3 => ?_)
  · simp only [zcd] at c3
    rw [hv2 ⟨hp, x1, by omega⟩]
    refine tt_op rfl rfl ?_
    refine tt_get rfl (by assumption) (by rfl) ?_
    refine tt_op rfl rfl ?_
    refine z_il rfl (by first | assumption | (unfold R3; omega)) ?_
    refine tt_op rfl rfl ?_
    refine z_il rfl (by first | assumption | (unfold R3; omega)) ?_
    refine tt_op rfl rfl ?_
    refine z_il rfl (by first | assumption | (unfold R3; omega)) ?_
    refine tt_op rfl rfl ?_
    refine tt_pV rfl rfl rfl h5 rfl (c_cornersAt HC h5 hbd.1 (x, y, z) x1.2 _ ⟨by omega, by omega⟩) ?_
    refine z_il rfl ⟨by omega, by omega⟩ ?_
    refine tt_lreturn rfl rfl (Nat.le_of_ble_eq_true rfl) (Nat.le_of_ble_eq_true rfl) ?_
    exact ⟨rfl, rfl, rfl⟩
  · simp only [zcd] at c3
    rw [hv1 ⟨hp, x1, by omega⟩]
    refine tt_op rfl rfl ?_
    refine tt_goto rfl ?_
    refine tt_lreturn rfl rfl (Nat.le_of_ble_eq_true rfl) (Nat.le_of_ble_eq_true rfl) ?_
    exact ⟨rfl, rfl, rfl⟩
/-- which numbers are corners -/
def isCo (CB : Nat) (x : Int) : Prop := (0 ≤ x ∧ x < 14) ∧ CB.testBit x.toNat = true
theorem c_isCo (h5 : h 5 = some (huC F E CB six)) (hCB : CB < 16384) (x : Int) (hx : R3 x) (v : Value) (hv1 : isCo CB x → v = zI 1) (hv0 : ¬ isCo CB x → v = zI 0) : xPure xmX1_isCorner 2 [.ref 5, zI x] n h v := by
  by_cases hq : 0 ≤ x ∧ x < 14
  · have e : x = ((x.toNat : Nat) : Int) := by omega
    have t := c_isCorner (n := n) h5 x.toNat (by omega) hCB
    rw [← e] at t
    by_cases hb : CB.testBit x.toNat = true
    · rw [hv1 ⟨hq, hb⟩]; rw [if_pos hb] at t; exact t
    · rw [hv0 (fun z => hb z.2)]; rw [if_neg hb] at t; exact t
  · rw [hv0 (fun z => hq z.1)]
    exact c_isCorner_no x hx hq
set_option maxRecDepth 10000 in
theorem c_way (H : xSt h m P ct s) (x y : Int) (hx : R3 x) (hy : R3 y) (v : Value)
    (hv3 : ¬ 0 < (blF P m).1 → v = zI (-3))
    (hv1 : 0 < (blF P m).1 → ¬ (isCo (hCB P m) x ∧ isCo (hCB P m) y) → v = zI (-1))
    (hv : 0 < (blF P m).1 → isCo (hCB P m) x ∧ isCo (hCB P m) y → v = zI (spR (hBs P m) y.toNat 14 0 (2 ^ x.toNat))) : xPure xmX5_way 100 [.ref 0, zI x, zI y] n h v := by
  have hbd := hu_bd H.2.2.1
  obtain ⟨h0, HC, ⟨h5, hF, -, ⟨b, h7, hb7⟩, -⟩, -⟩ := H
  refine xCall.of xgX5_way rfl ?_
  have no : ∀ l, 0 < (blF P m).1 → ¬ (isCo (hCB P m) x ∧ isCo (hCB P m) y) → xT xmX5_way (100, 0, 0, 0, 0) 44 l [] n h (fun r n' h' => r = some v ∧ n' = n ∧ h' = h) := by
    intro l hp hn
    rw [hv1 hp hn]
    refine tt_op rfl rfl ?_
    refine tt_ireturn rfl rfl (by rfl) (Nat.le_of_ble_eq_true rfl) (Nat.le_of_ble_eq_true rfl) ?_
    exact ⟨rfl, rfl, rfl⟩
  refine tt_op rfl rfl ?_
  by_cases hp : 0 < (blF P m).1
  rotate_left
  · refine tt_pV rfl rfl rfl h0 rfl (c_stands_n h0 h5 hF hp) ?_
    rw [hv3 hp]
    refine z_if rfl (by first | assumption | (unfold R3; omega)) (fun c => absurd c (by simp only [zcd] <;> omega)) (fun c => ?_)
    refine tt_op rfl rfl ?_
    refine tt_ireturn rfl rfl (by rfl) (Nat.le_of_ble_eq_true rfl) (Nat.le_of_ble_eq_true rfl) ?_
    exact ⟨rfl, rfl, rfl⟩
  refine tt_pV rfl rfl rfl h0 rfl (c_stands_y h0 h5 hF hp) ?_
  refine z_if rfl (by first | assumption | (unfold R3; omega)) (fun c => ?_) (fun c => absurd (by simp only [zcd] <;> omega) c)
  refine tt_op rfl rfl ?_
  refine tt_get rfl (by assumption) (by rfl) ?_
  refine tt_op rfl rfl ?_
  by_cases x1 : isCo (hCB P m) x
  rotate_left
  · refine tt_pV rfl rfl rfl h5 rfl (c_isCo h5 hbd.1 x hx (zI 0) (fun q => absurd q x1) (fun _ => rfl)) ?_
    refine z_if rfl (by first | assumption | (unfold R3; omega)) (fun c => ?_) (fun c => absurd (by simp only [zcd] <;> omega) c)
    exact no _ hp (fun q => x1 q.1)
  refine tt_pV rfl rfl rfl h5 rfl (c_isCo h5 hbd.1 x hx (zI 1) (fun _ => rfl) (fun q => absurd x1 q)) ?_
  refine z_if rfl (by first | assumption | (unfold R3; omega)) (fun c => absurd c (by simp only [zcd] <;> omega)) (fun c => ?_)
  refine tt_op rfl rfl ?_
  refine tt_get rfl (by assumption) (by rfl) ?_
  refine tt_op rfl rfl ?_
  by_cases x2 : isCo (hCB P m) y
  rotate_left
  · refine tt_pV rfl rfl rfl h5 rfl (c_isCo h5 hbd.1 y hy (zI 0) (fun q => absurd q x2) (fun _ => rfl)) ?_
    refine z_if rfl (by first | assumption | (unfold R3; omega)) (fun c => ?_) (fun c => absurd (by simp only [zcd] <;> omega) c)
    exact no _ hp (fun q => x2 q.2)
  refine tt_pV rfl rfl rfl h5 rfl (c_isCo h5 hbd.1 y hy (zI 1) (fun _ => rfl) (fun q => absurd x2 q)) ?_
  refine z_if rfl (by first | assumption | (unfold R3; omega)) (fun c => absurd c (by simp only [zcd] <;> omega)) (fun c => ?_)
  have hb' : ∀ j, j < 14 → b j < 16384 := fun j hj => by rw [hb7 j hj]; exact hbd.2.2 j hj
  have ex : x = ((x.toNat : Nat) : Int) := by have := x1.1; omega
  have ey : y = ((y.toNat : Nat) : Int) := by have := x2.1; omega
  have t := c_steps (n := n) b h5 h7 hb' x.toNat y.toNat (by have := x1.1; omega) (by have := x2.1; omega)
  rw [← ex, ← ey, spR_b hb7] at t
  refine tt_op rfl rfl ?_
  refine tt_get rfl (by assumption) (by rfl) ?_
  refine tt_op rfl rfl ?_
  refine tt_op rfl rfl ?_
  refine tt_pV rfl rfl rfl h5 rfl t ?_
  refine tt_goto rfl ?_
  refine tt_ireturn rfl rfl (by rfl) (Nat.le_of_ble_eq_true rfl) (Nat.le_of_ble_eq_true rfl) ?_
  exact ⟨congrArg some (hv hp ⟨x1, x2⟩).symm, rfl, rfl⟩
/-- the motions are other ones -/
theorem st_mo (H : xSt h m P ct s) {s' : St} (hs' : mOk s') : xSt (moH h s') m P ct s' ∧ ∀ j, 64 ≤ j → moH h s' j = h j := by
  obtain ⟨h0, HC, HU, ⟨h57, h58, hc⟩, ⟨hmo, hs⟩, d, lv, se, me, le, row, h62, h63⟩ := H
  obtain ⟨u5, uF, ⟨ad, f, Hf, hfe⟩, ⟨b, u7, ub⟩, mo, u8, umo⟩ := HU
  have g : ∀ j, j ≠ 59 → j ≠ 60 → j ≠ 61 → moH h s' j = h j := fun j a b c => moH_n a b c
  refine ⟨⟨?_, xCl_mo HC, ⟨?_, uF, ⟨ad, f, xHf_mo Hf, hfe⟩, ⟨b, ?_, ub⟩, mo, ?_, umo⟩, ⟨?_, ?_, hc⟩, ⟨moH_self moH_59 moH_60 moH_61, hs'⟩, d, lv, se, me, le, row, ?_, ?_⟩, fun j hj => g j (by omega) (by omega) (by omega)⟩
  · rw [g 0 (by omega) (by omega) (by omega)]; exact h0
  · rw [g 5 (by omega) (by omega) (by omega)]; exact u5
  · rw [g 7 (by omega) (by omega) (by omega)]; exact u7
  · rw [g 8 (by omega) (by omega) (by omega)]; exact u8
  · rw [g 57 (by omega) (by omega) (by omega)]; exact h57
  · rw [g 58 (by omega) (by omega) (by omega)]; exact h58
  · rw [g 62 (by omega) (by omega) (by omega)]; exact h62
  · rw [g 63 (by omega) (by omega) (by omega)]; exact h63
/-- the motions once listed -/
def lsS (P : Nat → V3) (m : Nat) (s : St) : St := if s.1 = 0 then exR P (hCB P m) 14 0 (hCB P m) (0, s.2) else s
set_option maxRecDepth 10000 in
theorem c_listed (H : xSt h m P ct s) : xCall xmX5_listed 21 0 0 [.ref 0] n h (fun r n' h' => r = some (zI (lsS P m s).1) ∧ n' = n ∧ mOk (lsS P m s) ∧ xSt h' m P ct (lsS P m s) ∧ ∀ j, 64 ≤ j → h' j = h j) := by
  have H' := H
  have hbd := hu_bd H.2.2.1
  obtain ⟨h0, HC, ⟨h5, hF, -⟩, -, ⟨hmo, hs⟩, -⟩ := H
  obtain ⟨h59, h60, h61⟩ := moH_of hmo
  have hs1 := hs.1
  unfold lsS
  refine xCall.of xgX5_listed rfl ?_
  refine tt_op rfl rfl ?_
  refine tt_get rfl (by assumption) (by rfl) ?_
  refine tt_get rfl (by assumption) (by rfl) ?_
  refine z_if rfl (by first | assumption | (unfold R3; omega)) (fun c1 => ?_) (fun c1 => ?_)
  · simp only [zcd] at c1
    rw [if_neg (by omega)]
    refine tt_op rfl rfl ?_
    refine tt_get rfl (by assumption) (by rfl) ?_
    refine tt_get rfl (by assumption) (by rfl) ?_
    refine tt_ireturn rfl rfl (by rfl) (Nat.le_of_ble_eq_true rfl) (Nat.le_of_ble_eq_true rfl) ?_
    exact ⟨rfl, rfl, hs, H', fun _ _ => rfl⟩
  · simp only [zcd] at c1
    rw [if_pos (by omega)]
    refine tt_op rfl rfl ?_
    refine tt_get rfl (by assumption) (by rfl) ?_
    have t := c_list (n := n) HC h5 hbd.1 s hs
    rw [← hmo] at t
    refine tt_callV (M' := xmX2_list) rfl rfl rfl h59 rfl t ?_
    rintro r n' h' ⟨rfl, rfl, rfl, hok⟩
    obtain ⟨S2, o2⟩ := st_mo H' hok
    have g0 := S2.1
    have g59 := (moH_of S2.2.2.2.2.1.1).1
    refine tt_op rfl rfl ?_
    refine tt_get rfl g0 (by rfl) ?_
    refine tt_get rfl g59 (by rfl) ?_
    refine tt_ireturn rfl rfl (by rfl) (Nat.le_of_ble_eq_true rfl) (Nat.le_of_ble_eq_true rfl) ?_
    exact ⟨rfl, rfl, hok, S2, o2⟩
set_option maxRecDepth 10000 in
theorem c_isSymmetry (H : xSt h m P ct s) (x : Int) (hx : R3 x) : xCall xmX5_isSymmetry 22 0 0 [.ref 0, zI x] n h (fun r n' h' => n' = n ∧ (∀ j, 64 ≤ j → h' j = h j) ∧ ((x < 0 ∧ r = some (zI 0) ∧ h' = h) ∨ (0 ≤ x ∧ mOk (lsS P m s) ∧ r = some (zI (if x < (lsS P m s).1 then 1 else 0)) ∧ xSt h' m P ct (lsS P m s)))) := by
  have h0 := H.1
  refine xCall.of xgX5_isSymmetry rfl ?_
  refine tt_op rfl rfl ?_
  refine z_if rfl (by first | assumption | (unfold R3; omega)) (fun c1 => ?_) (fun c1 => ?_)
  · simp only [zcd] at c1
    refine tt_op rfl rfl ?_
    refine tt_ireturn rfl rfl (by rfl) (Nat.le_of_ble_eq_true rfl) (Nat.le_of_ble_eq_true rfl) ?_
    exact ⟨rfl, fun _ _ => rfl, Or.inl ⟨c1, rfl, rfl⟩⟩
  simp only [zcd] at c1
  refine tt_op rfl rfl ?_
  refine tt_op rfl rfl ?_
  refine tt_callV (M' := xmX5_listed) rfl rfl rfl h0 rfl (c_listed H) ?_
  rintro r n' h' ⟨rfl, rfl, hok, S2, o2⟩
  have hs1 := hok.1
  refine z_icmp rfl hx ⟨by omega, by omega⟩ (fun c2 => ?_) (fun c2 => ?_)
  · simp only [zcd] at c2
    refine tt_op rfl rfl ?_
    refine tt_ireturn rfl rfl (by rfl) (Nat.le_of_ble_eq_true rfl) (Nat.le_of_ble_eq_true rfl) ?_
    exact ⟨rfl, o2, Or.inr ⟨by omega, hok, by rw [if_neg (by omega)], S2⟩⟩
  · simp only [zcd] at c2
    refine tt_op rfl rfl ?_
    refine tt_goto rfl ?_
    refine tt_ireturn rfl rfl (by rfl) (Nat.le_of_ble_eq_true rfl) (Nat.le_of_ble_eq_true rfl) ?_
    exact ⟨rfl, o2, Or.inr ⟨by omega, hok, by rw [if_pos (by omega)], S2⟩⟩
set_option maxRecDepth 10000 in
theorem c_symmetries (H : xSt h m P ct s) : xCall xmX5_symmetries 100 0 0 [.ref 0] n h (fun r n' h' => n' = n ∧ (∀ j, 64 ≤ j → h' j = h j) ∧ ((¬ 0 < (blF P m).1 ∧ r = some (zI (-3)) ∧ h' = h) ∨ (0 < (blF P m).1 ∧ r = some (zI (lsS P m s).1) ∧ xSt h' m P ct (lsS P m s)))) := by
  have H' := H
  obtain ⟨h0, HC, ⟨h5, hF, -⟩, -⟩ := H
  refine xCall.of xgX5_symmetries rfl ?_
  refine tt_op rfl rfl ?_
  by_cases hp : 0 < (blF P m).1
  rotate_left
  · refine tt_pV rfl rfl rfl h0 rfl (c_stands_n h0 h5 hF hp) ?_
    refine z_if rfl (by first | assumption | (unfold R3; omega)) (fun c => ?_) (fun c => absurd (by simp only [zcd] <;> omega) c)
    refine tt_op rfl rfl ?_
    refine tt_ireturn rfl rfl (by rfl) (Nat.le_of_ble_eq_true rfl) (Nat.le_of_ble_eq_true rfl) ?_
    exact ⟨rfl, fun _ _ => rfl, Or.inl ⟨hp, rfl, rfl⟩⟩
  refine tt_pV rfl rfl rfl h0 rfl (c_stands_y h0 h5 hF hp) ?_
  refine z_if rfl (by first | assumption | (unfold R3; omega)) (fun c => absurd c (by simp only [zcd] <;> omega)) (fun c => ?_)
  refine tt_op rfl rfl ?_
  refine tt_callV (M' := xmX5_listed) rfl rfl rfl h0 rfl (c_listed H') ?_
  rintro r n' h' ⟨rfl, rfl, hok, S2, o2⟩
  refine tt_goto rfl ?_
  refine tt_ireturn rfl rfl (by rfl) (Nat.le_of_ble_eq_true rfl) (Nat.le_of_ble_eq_true rfl) ?_
  exact ⟨rfl, o2, Or.inr ⟨hp, rfl, S2⟩⟩
set_option maxRecDepth 10000 in
set_option maxHeartbeats 1000000 in
theorem c_symmetry (H : xSt h m P ct s) (x y : Int) (hx : R3 x) (hy : R3 y) : xCall xmX5_symmetry 100 0 0 [.ref 0, zI x, zI y] n h (fun r n' h' => n' = n ∧ (∀ j, 64 ≤ j → h' j = h j) ∧ ((¬ 0 < (blF P m).1 ∧ r = some (zI (-3)) ∧ h' = h) ∨ (0 < (blF P m).1 ∧ x < 0 ∧ r = some (zI (-1)) ∧ h' = h) ∨ (0 < (blF P m).1 ∧ 0 ≤ x ∧ xSt h' m P ct (lsS P m s) ∧ ((x < (lsS P m s).1 ∧ isCo (hCB P m) y ∧ r = some (zI (imF (lsS P m s) x.toNat y.toNat))) ∨ (¬ (x < (lsS P m s).1 ∧ isCo (hCB P m) y) ∧ r = some (zI (-1))))))) := by
  have H' := H
  have hbd := hu_bd H.2.2.1
  obtain ⟨h0, HC, ⟨h5, hF, -⟩, -⟩ := H
  refine xCall.of xgX5_symmetry rfl ?_
  refine tt_op rfl rfl ?_
  by_cases hp : 0 < (blF P m).1
  rotate_left
  · refine tt_pV rfl rfl rfl h0 rfl (c_stands_n h0 h5 hF hp) ?_
    refine z_if rfl (by first | assumption | (unfold R3; omega)) (fun c => absurd c (by simp only [zcd] <;> omega)) (fun c => ?_)
    refine tt_op rfl rfl ?_
    refine tt_ireturn rfl rfl (by rfl) (Nat.le_of_ble_eq_true rfl) (Nat.le_of_ble_eq_true rfl) ?_
    exact ⟨rfl, fun _ _ => rfl, Or.inl ⟨hp, rfl, rfl⟩⟩
  refine tt_pV rfl rfl rfl h0 rfl (c_stands_y h0 h5 hF hp) ?_
  refine z_if rfl (by first | assumption | (unfold R3; omega)) (fun c => ?_) (fun c => absurd (by simp only [zcd] <;> omega) c)
  refine tt_op rfl rfl ?_
  refine tt_op rfl rfl ?_
  refine tt_callV (M' := xmX5_isSymmetry) rfl rfl rfl h0 rfl (c_isSymmetry H' x hx) ?_
  rintro r n' h' ⟨rfl, o2, ⟨xn, rfl, rfl⟩ | ⟨xp, hok, rfl, S2⟩⟩
  · refine z_if rfl (by first | assumption | (unfold R3; omega)) (fun c => ?_) (fun c => absurd (by simp only [zcd] <;> omega) c)
    refine tt_op rfl rfl ?_
    refine tt_ireturn rfl rfl (by rfl) (Nat.le_of_ble_eq_true rfl) (Nat.le_of_ble_eq_true rfl) ?_
    exact ⟨rfl, o2, Or.inr (Or.inl ⟨hp, xn, rfl, rfl⟩)⟩
  have S2' := S2
  obtain ⟨g0, HC2, ⟨g5, -, -⟩, -, ⟨gmo, -⟩, -⟩ := S2
  by_cases xl : x < (lsS P m s).1
  rotate_left
  · rw [if_neg xl]
    refine z_if rfl (by first | assumption | (unfold R3; omega)) (fun c => ?_) (fun c => absurd (by simp only [zcd] <;> omega) c)
    refine tt_op rfl rfl ?_
    refine tt_ireturn rfl rfl (by rfl) (Nat.le_of_ble_eq_true rfl) (Nat.le_of_ble_eq_true rfl) ?_
    exact ⟨rfl, o2, Or.inr (Or.inr ⟨hp, xp, S2', Or.inr ⟨fun q => xl q.1, rfl⟩⟩)⟩
  rw [if_pos xl]
  have hs1 := hok.1
  refine z_if rfl (by first | assumption | (unfold R3; omega)) (fun c => absurd c (by simp only [zcd] <;> omega)) (fun c => ?_)
  refine tt_op rfl rfl ?_
  refine tt_get rfl (by assumption) (by rfl) ?_
  refine tt_op rfl rfl ?_
  by_cases x2 : isCo (hCB P m) y
  rotate_left
  · refine tt_pV rfl rfl rfl g5 rfl (c_isCo g5 hbd.1 y hy (zI 0) (fun q => absurd q x2) (fun _ => rfl)) ?_
    refine z_if rfl (by first | assumption | (unfold R3; omega)) (fun c => ?_) (fun c => absurd (by simp only [zcd] <;> omega) c)
    refine tt_op rfl rfl ?_
    refine tt_ireturn rfl rfl (by rfl) (Nat.le_of_ble_eq_true rfl) (Nat.le_of_ble_eq_true rfl) ?_
    exact ⟨rfl, o2, Or.inr (Or.inr ⟨hp, xp, S2', Or.inr ⟨fun q => x2 q.2, rfl⟩⟩)⟩
  refine tt_pV rfl rfl rfl g5 rfl (c_isCo g5 hbd.1 y hy (zI 1) (fun _ => rfl) (fun q => absurd x2 q)) ?_
  refine z_if rfl (by first | assumption | (unfold R3; omega)) (fun c => absurd c (by simp only [zcd] <;> omega)) (fun c => ?_)
  have ex : x = ((x.toNat : Nat) : Int) := by omega
  have ey : y = ((y.toNat : Nat) : Int) := by have := x2.1; omega
  have t := c_image' (h := h') (n := n') (lsS P m s) x.toNat y.toNat (by omega) (by have := x2.1; omega)
  rw [← ex, ← ey, ← gmo] at t
  refine tt_op rfl rfl ?_
  refine tt_get rfl (by assumption) (by rfl) ?_
  refine tt_op rfl rfl ?_
  refine tt_op rfl rfl ?_
  refine tt_pV rfl rfl rfl (moH_of gmo).1 rfl t ?_
  refine tt_goto rfl ?_
  refine tt_ireturn rfl rfl (by rfl) (Nat.le_of_ble_eq_true rfl) (Nat.le_of_ble_eq_true rfl) ?_
  exact ⟨rfl, o2, Or.inr (Or.inr ⟨hp, xp, S2', Or.inl ⟨xl, x2, rfl⟩⟩)⟩
set_option maxRecDepth 10000 in
set_option maxHeartbeats 1000000 in
theorem c_turn (H : xSt h m P ct s) (hne : 0 < (blF P m).1 → 0 < bdf (hCB P m) ((blF P m).2 0).2.2.1) (hl3 : 0 < (blF P m).1 → 3 ≤ fLen P m 0) (x : Int) (hx : R3 x) : xCall xmX5_turn 100 0 0 [.ref 0, zI x] n h (fun r n' h' => n' = n ∧ (∀ j, 64 ≤ j → h' j = h j) ∧ ((¬ 0 < (blF P m).1 ∧ r = some (zI (-3)) ∧ h' = h) ∨ (0 < (blF P m).1 ∧ x < 0 ∧ r = some (zI (-1)) ∧ h' = h) ∨ (0 < (blF P m).1 ∧ 0 ≤ x ∧ xSt h' m P ct (lsS P m s) ∧ ((x < (lsS P m s).1 ∧ r = some (zI (if khB P (hCB P m) ((blF P m).2 0) (imF (lsS P m s) x.toNat) then 1 else 0))) ∨ (¬ x < (lsS P m s).1 ∧ r = some (zI (-1))))))) := by
  have H' := H
  have hbd := hu_bd H.2.2.1
  obtain ⟨h0, HC, ⟨h5, hF, -⟩, -⟩ := H
  refine xCall.of xgX5_turn rfl ?_
  refine tt_op rfl rfl ?_
  by_cases hp : 0 < (blF P m).1
  rotate_left
  · refine tt_pV rfl rfl rfl h0 rfl (c_stands_n h0 h5 hF hp) ?_
    refine z_if rfl (by first | assumption | (unfold R3; omega)) (fun c => absurd c (by simp only [zcd] <;> omega)) (fun c => ?_)
    refine tt_op rfl rfl ?_
    refine tt_ireturn rfl rfl (by rfl) (Nat.le_of_ble_eq_true rfl) (Nat.le_of_ble_eq_true rfl) ?_
    exact ⟨rfl, fun _ _ => rfl, Or.inl ⟨hp, rfl, rfl⟩⟩
  refine tt_pV rfl rfl rfl h0 rfl (c_stands_y h0 h5 hF hp) ?_
  refine z_if rfl (by first | assumption | (unfold R3; omega)) (fun c => ?_) (fun c => absurd (by simp only [zcd] <;> omega) c)
  refine tt_op rfl rfl ?_
  refine tt_op rfl rfl ?_
  refine tt_callV (M' := xmX5_isSymmetry) rfl rfl rfl h0 rfl (c_isSymmetry H' x hx) ?_
  rintro r n' h' ⟨rfl, o2, ⟨xn, rfl, rfl⟩ | ⟨xp, hok, rfl, S2⟩⟩
  · refine z_if rfl (by first | assumption | (unfold R3; omega)) (fun c => absurd c (by simp only [zcd] <;> omega)) (fun c => ?_)
    refine tt_op rfl rfl ?_
    refine tt_ireturn rfl rfl (by rfl) (Nat.le_of_ble_eq_true rfl) (Nat.le_of_ble_eq_true rfl) ?_
    exact ⟨rfl, o2, Or.inr (Or.inl ⟨hp, xn, rfl, rfl⟩)⟩
  have S2' := S2
  obtain ⟨g0, HC2, ⟨g5, gF, ⟨ad, f, Hf, hfe⟩, -⟩, -, ⟨gmo, -⟩, -⟩ := S2
  by_cases xl : x < (lsS P m s).1
  rotate_left
  · rw [if_neg xl]
    refine z_if rfl (by first | assumption | (unfold R3; omega)) (fun c => absurd c (by simp only [zcd] <;> omega)) (fun c => ?_)
    refine tt_op rfl rfl ?_
    refine tt_ireturn rfl rfl (by rfl) (Nat.le_of_ble_eq_true rfl) (Nat.le_of_ble_eq_true rfl) ?_
    exact ⟨rfl, o2, Or.inr (Or.inr ⟨hp, xp, S2', Or.inr ⟨xl, rfl⟩⟩)⟩
  rw [if_pos xl]
  have hs1 := hok.1
  refine z_if rfl (by first | assumption | (unfold R3; omega)) (fun c => ?_) (fun c => absurd (by simp only [zcd] <;> omega) c)
  have ex : x = ((x.toNat : Nat) : Int) := by omega
  obtain ⟨-, -, e3, -, e5, e6⟩ := hfe 0 hp
  have hl : 3 ≤ ((blF P m).2 0).2.2.2.2.1 := hl3 hp
  have hw : bdf (hCB P m) (f 0).2.2.1 < 16384 := bdf_lt hbd.1
  have hn0 : 0 < bdf (hCB P m) (f 0).2.2.1 := by rw [e3]; exact hne hp
  have t := c_keepsHands (n := n') HC2 g5 Hf (lsS P m s) hok x.toNat (by omega) hw hn0
  have ek : khB P (hCB P m) (f 0) (imF (lsS P m s) x.toNat) = khB P (hCB P m) ((blF P m).2 0) (imF (lsS P m s) x.toNat) := by
    unfold khB
    rw [e3, e6 0 (by rw [e5]; omega), e6 1 (by rw [e5]; omega), e6 2 (by rw [e5]; omega)]
  rw [← ex, ← gmo] at t
  refine tt_op rfl rfl ?_
  refine tt_get rfl (by assumption) (by rfl) ?_
  refine tt_op rfl rfl ?_
  refine tt_pV rfl rfl rfl (moH_of gmo).1 rfl t ?_
  by_cases hk : khB P (hCB P m) (f 0) (imF (lsS P m s) x.toNat)
  · rw [if_pos hk]
    refine z_if rfl (by first | assumption | (unfold R3; omega)) (fun c => absurd c (by simp only [zcd] <;> omega)) (fun c => ?_)
    refine tt_op rfl rfl ?_
    refine tt_goto rfl ?_
    refine tt_ireturn rfl rfl (by rfl) (Nat.le_of_ble_eq_true rfl) (Nat.le_of_ble_eq_true rfl) ?_
    exact ⟨rfl, o2, Or.inr (Or.inr ⟨hp, xp, S2', Or.inl ⟨xl, by rw [if_pos (ek ▸ hk)]⟩⟩)⟩
  · rw [if_neg hk]
    refine z_if rfl (by first | assumption | (unfold R3; omega)) (fun c => ?_) (fun c => absurd (by simp only [zcd] <;> omega) c)
    refine tt_op rfl rfl ?_
    refine tt_ireturn rfl rfl (by rfl) (Nat.le_of_ble_eq_true rfl) (Nat.le_of_ble_eq_true rfl) ?_
    exact ⟨rfl, o2, Or.inr (Or.inr ⟨hp, xp, S2', Or.inl ⟨xl, by rw [if_neg (ek ▸ hk)]⟩⟩)⟩
set_option maxRecDepth 10000 in
set_option maxHeartbeats 1000000 in
theorem c_order (H : xSt h m P ct s) (x : Int) (hx : R3 x) : xCall xmX5_order 100 0 0 [.ref 0, zI x] n h (fun r n' h' => n' = n ∧ (∀ j, 64 ≤ j → h' j = h j) ∧ ((¬ 0 < (blF P m).1 ∧ r = some (zI (-3)) ∧ h' = h) ∨ (0 < (blF P m).1 ∧ x < 0 ∧ r = some (zI (-1)) ∧ h' = h) ∨ (0 < (blF P m).1 ∧ 0 ≤ x ∧ xSt h' m P ct (lsS P m s) ∧ ((x < (lsS P m s).1 ∧ r = some (zI (pdR (hCB P m) (imF (lsS P m s) x.toNat) 14 0 1))) ∨ (¬ x < (lsS P m s).1 ∧ r = some (zI (-1))))))) := by
  have H' := H
  have hbd := hu_bd H.2.2.1
  obtain ⟨h0, HC, ⟨h5, hF, -⟩, -⟩ := H
  refine xCall.of xgX5_order rfl ?_
  refine tt_op rfl rfl ?_
  by_cases hp : 0 < (blF P m).1
  rotate_left
  · refine tt_pV rfl rfl rfl h0 rfl (c_stands_n h0 h5 hF hp) ?_
    refine z_if rfl (by first | assumption | (unfold R3; omega)) (fun c => absurd c (by simp only [zcd] <;> omega)) (fun c => ?_)
    refine tt_op rfl rfl ?_
    refine tt_ireturn rfl rfl (by rfl) (Nat.le_of_ble_eq_true rfl) (Nat.le_of_ble_eq_true rfl) ?_
    exact ⟨rfl, fun _ _ => rfl, Or.inl ⟨hp, rfl, rfl⟩⟩
  refine tt_pV rfl rfl rfl h0 rfl (c_stands_y h0 h5 hF hp) ?_
  refine z_if rfl (by first | assumption | (unfold R3; omega)) (fun c => ?_) (fun c => absurd (by simp only [zcd] <;> omega) c)
  refine tt_op rfl rfl ?_
  refine tt_op rfl rfl ?_
  refine tt_callV (M' := xmX5_isSymmetry) rfl rfl rfl h0 rfl (c_isSymmetry H' x hx) ?_
  rintro r n' h' ⟨rfl, o2, ⟨xn, rfl, rfl⟩ | ⟨xp, hok, rfl, S2⟩⟩
  · refine z_if rfl (by first | assumption | (unfold R3; omega)) (fun c => ?_) (fun c => absurd (by simp only [zcd] <;> omega) c)
    refine tt_op rfl rfl ?_
    refine tt_ireturn rfl rfl (by rfl) (Nat.le_of_ble_eq_true rfl) (Nat.le_of_ble_eq_true rfl) ?_
    exact ⟨rfl, o2, Or.inr (Or.inl ⟨hp, xn, rfl, rfl⟩)⟩
  have S2' := S2
  obtain ⟨g0, HC2, ⟨g5, gF, -⟩, -, ⟨gmo, -⟩, -⟩ := S2
  by_cases xl : x < (lsS P m s).1
  rotate_left
  · rw [if_neg xl]
    refine z_if rfl (by first | assumption | (unfold R3; omega)) (fun c => ?_) (fun c => absurd (by simp only [zcd] <;> omega) c)
    refine tt_op rfl rfl ?_
    refine tt_ireturn rfl rfl (by rfl) (Nat.le_of_ble_eq_true rfl) (Nat.le_of_ble_eq_true rfl) ?_
    exact ⟨rfl, o2, Or.inr (Or.inr ⟨hp, xp, S2', Or.inr ⟨xl, rfl⟩⟩)⟩
  rw [if_pos xl]
  have hs1 := hok.1
  refine z_if rfl (by first | assumption | (unfold R3; omega)) (fun c => absurd c (by simp only [zcd] <;> omega)) (fun c => ?_)
  have ex : x = ((x.toNat : Nat) : Int) := by omega
  have t := c_period (n := n') g5 hbd.1 (lsS P m s) hok x.toNat (by omega)
  rw [← ex, ← gmo] at t
  refine tt_op rfl rfl ?_
  refine tt_get rfl (by assumption) (by rfl) ?_
  refine tt_op rfl rfl ?_
  refine tt_pV rfl rfl rfl (moH_of gmo).1 rfl t ?_
  refine tt_goto rfl ?_
  refine tt_ireturn rfl rfl (by rfl) (Nat.le_of_ble_eq_true rfl) (Nat.le_of_ble_eq_true rfl) ?_
  exact ⟨rfl, o2, Or.inr (Or.inr ⟨hp, xp, S2', Or.inl ⟨xl, rfl⟩⟩)⟩
set_option maxRecDepth 10000 in
theorem c_regular (H : xSt h m P ct s) : xCall xmX5_regular 100 0 0 [.ref 0] n h (fun r n' h' => n' = n ∧ (∀ j, 64 ≤ j → h' j = h j) ∧ ((¬ 0 < (blF P m).1 ∧ r = some (zI (-3)) ∧ h' = h) ∨ (0 < (blF P m).1 ∧ r = some (zI (if (lsS P m s).1 = 4 * hE P m then 1 else 0)) ∧ xSt h' m P ct (lsS P m s)))) := by
  have H' := H
  have hbd := hu_bd H.2.2.1
  obtain ⟨h0, HC, ⟨h5, hF, -⟩, -⟩ := H
  refine xCall.of xgX5_regular rfl ?_
  refine tt_op rfl rfl ?_
  by_cases hp : 0 < (blF P m).1
  rotate_left
  · refine tt_pV rfl rfl rfl h0 rfl (c_stands_n h0 h5 hF hp) ?_
    refine z_if rfl (by first | assumption | (unfold R3; omega)) (fun c => absurd c (by simp only [zcd] <;> omega)) (fun c => ?_)
    refine tt_op rfl rfl ?_
    refine tt_ireturn rfl rfl (by rfl) (Nat.le_of_ble_eq_true rfl) (Nat.le_of_ble_eq_true rfl) ?_
    exact ⟨rfl, fun _ _ => rfl, Or.inl ⟨hp, rfl, rfl⟩⟩
  refine tt_pV rfl rfl rfl h0 rfl (c_stands_y h0 h5 hF hp) ?_
  refine z_if rfl (by first | assumption | (unfold R3; omega)) (fun c => ?_) (fun c => absurd (by simp only [zcd] <;> omega) c)
  refine tt_op rfl rfl ?_
  refine tt_callV (M' := xmX5_listed) rfl rfl rfl h0 rfl (c_listed H') ?_
  rintro r n' h' ⟨rfl, rfl, hok, S2, o2⟩
  have S2' := S2
  obtain ⟨g0, HC2, ⟨g5, gF, -⟩, -⟩ := S2
  have hs1 := hok.1
  have he := hbd.2.1
  refine tt_op rfl rfl ?_
  refine tt_op rfl rfl ?_
  refine tt_get rfl (by assumption) (by rfl) ?_
  refine tt_get rfl (by assumption) (by rfl) ?_
  refine z_imul rfl ?_
  refine z_icmp rfl ⟨by omega, by omega⟩ ⟨by omega, by omega⟩ (fun c2 => ?_) (fun c2 => ?_)
  · simp only [zcd] at c2
    rw [if_neg (by omega)]
    refine tt_op rfl rfl ?_
    refine tt_ireturn rfl rfl (by rfl) (Nat.le_of_ble_eq_true rfl) (Nat.le_of_ble_eq_true rfl) ?_
    exact ⟨rfl, o2, Or.inr ⟨hp, rfl, S2'⟩⟩
  · simp only [zcd] at c2
    rw [if_pos (by omega)]
    refine tt_op rfl rfl ?_
    refine tt_goto rfl ?_
    refine tt_ireturn rfl rfl (by rfl) (Nat.le_of_ble_eq_true rfl) (Nat.le_of_ble_eq_true rfl) ?_
    exact ⟨rfl, o2, Or.inr ⟨hp, rfl, S2'⟩⟩
end SO4
