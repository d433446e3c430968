/-! The class itself: points, places, cuts, ways, motions -/
section SO2
variable {h : xHp} {m : Nat} {P : Nat → V3} {n : Nat} {F E CB : Nat} {six : Int} {ct : Nat × (Nat → Int)} {s : St}
theorem vup_bd (hb : pbd P) {k : Nat} {u : V3} (hu : vbd 20 u) : pbd (vup P k u) := by
  intro j hj
  unfold vup
  split
  · exact hu
  · exact hb j hj
theorem zup_vup1 (P : Nat → V3) (k : Nat) (u : V3) : zup (fun j => (P j).1) k u.1 = fun j => (vup P k u j).1 := by
  funext j; unfold zup vup; split <;> rfl
theorem zup_vup2 (P : Nat → V3) (k : Nat) (u : V3) : zup (fun j => (P j).2.1) k u.2.1 = fun j => (vup P k u j).2.1 := by
  funext j; unfold zup vup; split <;> rfl
theorem zup_vup3 (P : Nat → V3) (k : Nat) (u : V3) : zup (fun j => (P j).2.2) k u.2.2 = fun j => (vup P k u j).2.2 := by
  funext j; unfold zup vup; split <;> rfl
set_option maxRecDepth 10000 in
theorem c_add (H : xCl h m P) (u : V3) (hu : vbd 20 u) (hm : m < 14) : xCall xmX0_add 2 0 0 [.ref 1, zI u.1, zI u.2.1, zI u.2.2] n h (fun r n' h' => r = none ∧ n' = n ∧ xCl h' (m + 1) (vup P m u) ∧ ∀ j, (j < 1 ∨ 5 ≤ j) → h' j = h j) := by
  obtain ⟨k1, k2, k3, k4, k5, k6⟩ := H
  refine xCall.of xgX0_add rfl ?_
  refine tt_op rfl rfl ?_
  refine tt_get rfl (by assumption) (by rfl) ?_
  refine tt_pS rfl rfl rfl rfl (c_isPoint m hm _ _) ?_
  refine z_if rfl (by first | assumption | (unfold R3; omega)) (fun c => ?_) (fun c => absurd (by simp only [zcd] <;> omega) c)
  refine tt_op rfl rfl ?_
  refine tt_get rfl (by assumption) (by rfl) ?_
  refine tt_op rfl rfl ?_
  refine tt_get rfl (by assumption) (by rfl) ?_
  refine tt_op rfl rfl ?_
  refine z_iast rfl k2 rfl (by omega) (by decide) ?_
  rw [zup_vup1]
  have a1 : ∀ e, xup h 2 e 1 = some (.inr (0, [zI m, .ref 2, .ref 3, .ref 4])) := fun e => by rw [xup_n (by omega)]; exact k1
  have a3 : ∀ e, xup h 2 e 3 = some (zA 14 fun j => (P j).2.1) := fun e => by rw [xup_n (by omega)]; exact k3
  have b1 : ∀ e e', xup (xup h 2 e) 3 e' 1 = some (.inr (0, [zI m, .ref 2, .ref 3, .ref 4])) := fun e e' => by rw [xup_n (by omega), xup_n (by omega)]; exact k1
  have b4 : ∀ e e', xup (xup h 2 e) 3 e' 4 = some (zA 14 fun j => (P j).2.2) := fun e e' => by rw [xup_n (by omega), xup_n (by omega)]; exact k4
  have c1 : ∀ e e' e'', xup (xup (xup h 2 e) 3 e') 4 e'' 1 = some (.inr (0, [zI m, .ref 2, .ref 3, .ref 4])) := fun e e' e'' => by rw [xup_n (by omega), xup_n (by omega), xup_n (by omega)]; exact k1
  refine tt_op rfl rfl ?_
  refine tt_get rfl (a1 _) (by rfl) ?_
  refine tt_op rfl rfl ?_
  refine tt_get rfl (a1 _) (by rfl) ?_
  refine tt_op rfl rfl ?_
  refine z_iast rfl (a3 _) rfl (by omega) (by decide) ?_
  rw [zup_vup2]
  refine tt_op rfl rfl ?_
  refine tt_get rfl (b1 _ _) (by rfl) ?_
  refine tt_op rfl rfl ?_
  refine tt_get rfl (b1 _ _) (by rfl) ?_
  refine tt_op rfl rfl ?_
  refine z_iast rfl (b4 _ _) rfl (by omega) (by decide) ?_
  rw [zup_vup3]
  refine tt_op rfl rfl ?_
  refine tt_op rfl rfl ?_
  refine tt_get rfl (c1 _ _ _) (by rfl) ?_
  refine tt_op rfl rfl ?_
  refine z_iadd rfl ?_
  refine tt_put rfl (c1 _ _ _) rfl (by decide) (by rfl) (by rfl) rfl ?_
  refine tt_return rfl rfl (Nat.le_of_ble_eq_true rfl) (Nat.le_of_ble_eq_true rfl) ?_
  refine ⟨rfl, rfl, ⟨xup_s, ?_, ?_, ?_, by omega, vup_bd k6 hu⟩, fun j hj => ?_⟩
  · rw [xup_n (by omega), xup_n (by omega), xup_n (by omega)]; exact xup_s
  · rw [xup_n (by omega), xup_n (by omega)]; exact xup_s
  · rw [xup_n (by omega)]; exact xup_s
  · rw [xup_n (by omega), xup_n (by omega), xup_n (by omega), xup_n (by omega)]
set_option maxRecDepth 10000 in
theorem c_forget (h0 : h 0 = some soC) (s : St) (h59 : h 59 = some (moC s.1)) (cn : Nat) (h57 : h 57 = some (seC cn)) : xCall xmX5_forget 1 0 0 [.ref 0] n h (fun r n' h' => r = none ∧ n' = n ∧ h' = xup (xup h 59 (moC 0)) 57 (seC 0)) := by
  refine xCall.of xgX5_forget rfl ?_
  refine tt_op rfl rfl ?_
  refine tt_get rfl (by assumption) (by rfl) ?_
  refine tt_op rfl rfl ?_
  refine tt_put rfl (h59) rfl (by decide) (by rfl) (by rfl) rfl ?_
  have a0 : ∀ e, xup h 59 e 0 = some soC := fun e => by rw [xup_n (by omega)]; exact h0
  have a57 : ∀ e, xup h 59 e 57 = some (seC cn) := fun e => by rw [xup_n (by omega)]; exact h57
  refine tt_op rfl rfl ?_
  refine tt_get rfl (a0 _) (by rfl) ?_
  refine tt_op rfl rfl ?_
  refine tt_put rfl (a57 _) rfl (by decide) (by rfl) (by rfl) rfl ?_
  refine tt_return rfl rfl (Nat.le_of_ble_eq_true rfl) (Nat.le_of_ble_eq_true rfl) ?_
  exact ⟨rfl, rfl, rfl⟩
theorem moH_self {s : St} (h59 : h 59 = some (moC s.1)) (h60 : h 60 = some (zA 672 fun j => (s.2.1 j : Int))) (h61 : h 61 = some (bA s.2.2)) : h = moH h s := by
  show h = xup (xup (xup h 61 (bA s.2.2)) 60 _) 59 (moC s.1)
  rw [xup_same h61, xup_same h60, xup_same h59]
theorem moH_of (e : h = moH h s) : h 59 = some (moC s.1) ∧ h 60 = some (zA 672 fun j => (s.2.1 j : Int)) ∧ h 61 = some (bA s.2.2) := by
  refine ⟨?_, ?_, ?_⟩
  · rw [e]; exact moH_59
  · rw [e]; exact moH_60
  · rw [e]; exact moH_61
/-- a new hull, all else forgotten -/
theorem st_new {h' : xHp} {m' : Nat} {P' : Nat → V3} (H : xSt h m P ct s) (e0 : h' 0 = some soC) (HC : xCl h' m' P') (HU : xHu h' m' P') (ho : ∀ j, 57 ≤ j → h' j = h j) : xSt (xup (xup h' 59 (moC 0)) 57 (seC 0)) m' P' (0, ct.2) (0, s.2) ∧ ∀ j, 64 ≤ j → xup (xup h' 59 (moC 0)) 57 (seC 0) j = h j := by
  obtain ⟨-, -, -, ⟨h57, h58, hc⟩, ⟨hmo, hs⟩, d, lv, se, me, le, row, h62, h63⟩ := H
  obtain ⟨h59, h60, h61⟩ := moH_of hmo
  obtain ⟨u5, uF, ⟨ad, f, Hf, hfe⟩, ⟨b, u7, ub⟩, mo, u8, umo⟩ := HU
  have g : ∀ j, j ≠ 57 → j ≠ 59 → xup (xup h' 59 (moC 0)) 57 (seC 0) j = h' j := fun j a b => by rw [xup_n a, xup_n b]
  refine ⟨⟨?_, xCl_up (by omega) (xCl_up (by omega) HC), ⟨?_, uF, ⟨ad, f, xHf_up (by omega) (xHf_up (by omega) Hf), hfe⟩, ⟨b, ?_, ub⟩, mo, ?_, umo⟩, ⟨xup_s, ?_, ⟨Nat.zero_le _, hc.2⟩⟩, ⟨moH_self ?_ ?_ ?_, ⟨Nat.zero_le _, hs.2⟩⟩, d, lv, se, me, le, row, ?_, ?_⟩, fun j hj => ?_⟩
  · rw [g 0 (by omega) (by omega)]; exact e0
  · rw [g 5 (by omega) (by omega)]; exact u5
  · rw [g 7 (by omega) (by omega)]; exact u7
  · rw [g 8 (by omega) (by omega)]; exact u8
  · rw [g 58 (by omega) (by omega), ho 58 (by omega)]; exact h58
  · rw [xup_n (by omega)]; exact xup_s
  · rw [g 60 (by omega) (by omega), ho 60 (by omega)]; exact h60
  · rw [g 61 (by omega) (by omega), ho 61 (by omega)]; exact h61
  · rw [g 62 (by omega) (by omega), ho 62 (by omega)]; exact h62
  · rw [g 63 (by omega) (by omega), ho 63 (by omega)]; exact h63
  · rw [g j (by omega) (by omega), ho j (by omega)]
theorem xHu_keep {h' : xHp} {m' : Nat} {P' : Nat → V3} (H : xHu h m P) (e : ∀ j, 5 ≤ j → h' j = h j) (Q : xHp → Prop) (k : (∃ F E CB six, h' 5 = some (huC F E CB six)) → (∃ ad f, xHf h' ad f) → (∃ b, h' 7 = some (bA b)) → (∃ mo, h' 8 = some (mA mo)) → Q h') : Q h' := by
  obtain ⟨u5, uF, ⟨ad, f, Hf, hfe⟩, ⟨b, u7, ub⟩, mo, u8, umo⟩ := H
  refine k ⟨_, _, _, _, by rw [e 5 (by omega)]; exact u5⟩ ⟨ad, f, ?_⟩ ⟨b, by rw [e 7 (by omega)]; exact u7⟩ ⟨mo, by rw [e 8 (by omega)]; exact u8⟩
  obtain ⟨⟨rd, g6, grd⟩, gA, gI, gC, gV⟩ := Hf
  refine ⟨⟨rd, by rw [e 6 (by omega)]; exact g6, grd⟩, gA, gI, fun i hi => ?_, gV⟩
  have := gA i hi
  rw [e _ (by omega), e _ (by omega)]
  exact gC i hi
set_option maxRecDepth 10000 in
set_option maxHeartbeats 1000000 in
theorem c_point (H : xSt h m P ct s) (x y z : Int) (hx : R3 x) (hy : R3 y) (hz : R3 z) : xCall xmX5_point 100 0 0 [.ref 0, zI x, zI y, zI z] n h (fun r n' h' => n' = n ∧ ((¬ (zwi x 20 ∧ zwi y 20 ∧ zwi z 20) ∧ r = some (zI (-2)) ∧ h' = h) ∨ ((zwi x 20 ∧ zwi y 20 ∧ zwi z 20) ∧ hasP P m (x, y, z) ∧ r = some (zI (-3)) ∧ h' = h) ∨ ((zwi x 20 ∧ zwi y 20 ∧ zwi z 20) ∧ ¬ hasP P m (x, y, z) ∧ m = 14 ∧ r = some (zI (-4)) ∧ h' = h) ∨ ((zwi x 20 ∧ zwi y 20 ∧ zwi z 20) ∧ ¬ hasP P m (x, y, z) ∧ m < 14 ∧ r = some (zI m) ∧ xSt h' (m + 1) (vup P m (x, y, z)) (0, ct.2) (0, s.2) ∧ ∀ j, 64 ≤ j → h' j = h j))) := by
  have H' := H
  obtain ⟨h0, HC, HU, ⟨h57, h58, hc⟩, ⟨hmo, hs⟩, d, lv, se, me, le, row, h62, h63⟩ := H
  have hm := HC.2.2.2.2.1
  have k1 := HC.1
  refine xCall.of xgX5_point rfl ?_
  have no : ∀ l, ¬ (zwi x 20 ∧ zwi y 20 ∧ zwi z 20) → xT xmX5_point (100, 0, 0, 0, 0) 27 l [] n h (fun r n' h' => n' = n ∧ ((¬ (zwi x 20 ∧ zwi y 20 ∧ zwi z 20) ∧ r = some (zI (-2)) ∧ h' = h) ∨ ((zwi x 20 ∧ zwi y 20 ∧ zwi z 20) ∧ hasP P m (x, y, z) ∧ r = some (zI (-3)) ∧ h' = h) ∨ ((zwi x 20 ∧ zwi y 20 ∧ zwi z 20) ∧ ¬ hasP P m (x, y, z) ∧ m = 14 ∧ r = some (zI (-4)) ∧ h' = h) ∨ ((zwi x 20 ∧ zwi y 20 ∧ zwi z 20) ∧ ¬ hasP P m (x, y, z) ∧ m < 14 ∧ r = some (zI m) ∧ xSt h' (m + 1) (vup P m (x, y, z)) (0, ct.2) (0, s.2) ∧ ∀ j, 64 ≤ j → h' j = h j))) := by
    intro l hn
    refine tt_op rfl rfl ?_
    refine tt_ireturn rfl rfl (by rfl) (Nat.le_of_ble_eq_true rfl) (Nat.le_of_ble_eq_true rfl) ?_
    exact ⟨rfl, Or.inl ⟨hn, rfl, rfl⟩⟩
  refine tt_op rfl rfl ?_
  refine tt_op rfl rfl ?_
  by_cases x1 : zwi x 20
  rotate_left
  · refine tt_pS rfl rfl rfl rfl (c_within x 20 hx (by omega) (zI 0) (fun q => absurd q x1) (fun _ => rfl) _ _) ?_
    refine z_if rfl (by first | assumption | (unfold R3; omega)) (fun c => ?_) (fun c => absurd (by simp only [zcd] <;> omega) c)
    exact no _ (fun q => x1 q.1)
  refine tt_pS rfl rfl rfl rfl (c_within x 20 hx (by omega) (zI 1) (fun _ => rfl) (fun q => absurd x1 q) _ _) ?_
  refine z_if rfl (by first | assumption | (unfold R3; omega)) (fun c => absurd c (by simp only [zcd] <;> omega)) (fun c => ?_)
  refine tt_op rfl rfl ?_
  refine tt_op rfl rfl ?_
  by_cases x2 : zwi y 20
  rotate_left
  · refine tt_pS rfl rfl rfl rfl (c_within y 20 hy (by omega) (zI 0) (fun q => absurd q x2) (fun _ => rfl) _ _) ?_
    refine z_if rfl (by first | assumption | (unfold R3; omega)) (fun c => ?_) (fun c => absurd (by simp only [zcd] <;> omega) c)
    exact no _ (fun q => x2 q.2.1)
  refine tt_pS rfl rfl rfl rfl (c_within y 20 hy (by omega) (zI 1) (fun _ => rfl) (fun q => absurd x2 q) _ _) ?_
  refine z_if rfl (by first | assumption | (unfold R3; omega)) (fun c => absurd c (by simp only [zcd] <;> omega)) (fun c => ?_)
  refine tt_op rfl rfl ?_
  refine tt_op rfl rfl ?_
  by_cases x3 : zwi z 20
  rotate_left
  · refine tt_pS rfl rfl rfl rfl (c_within z 20 hz (by omega) (zI 0) (fun q => absurd q x3) (fun _ => rfl) _ _) ?_
    refine z_if rfl (by first | assumption | (unfold R3; omega)) (fun c => absurd c (by simp only [zcd] <;> omega)) (fun c => ?_)
    exact no _ (fun q => x3 q.2.2)
  refine tt_pS rfl rfl rfl rfl (c_within z 20 hz (by omega) (zI 1) (fun _ => rfl) (fun q => absurd x3 q) _ _) ?_
  refine z_if rfl (by first | assumption | (unfold R3; omega)) (fun c => ?_) (fun c => absurd (by simp only [zcd] <;> omega) c)
  clear no
  have hu : vbd 20 (x, y, z) := ⟨x1, x2, x3⟩
  refine tt_op rfl rfl ?_
  refine tt_get rfl (by assumption) (by rfl) ?_
  refine tt_op rfl rfl ?_
  refine tt_op rfl rfl ?_
  refine tt_op rfl rfl ?_
  by_cases hh : hasP P m (x, y, z)
  · refine tt_pV rfl rfl rfl k1 rfl (c_has HC (x, y, z) hu (zI 1) (fun _ => rfl) (fun q => absurd hh q)) ?_
    refine z_if rfl (by first | assumption | (unfold R3; omega)) (fun c => absurd c (by simp only [zcd] <;> omega)) (fun c => ?_)
    refine tt_op rfl rfl ?_
    refine tt_ireturn rfl rfl (by rfl) (Nat.le_of_ble_eq_true rfl) (Nat.le_of_ble_eq_true rfl) ?_
    exact ⟨rfl, Or.inr (Or.inl ⟨⟨x1, x2, x3⟩, hh, rfl, rfl⟩)⟩
  refine tt_pV rfl rfl rfl k1 rfl (c_has HC (x, y, z) hu (zI 0) (fun q => absurd q hh) (fun _ => rfl)) ?_
  refine z_if rfl (by first | assumption | (unfold R3; omega)) (fun c => ?_) (fun c => absurd (by simp only [zcd] <;> omega) c)
  refine tt_op rfl rfl ?_
  refine tt_get rfl (by assumption) (by rfl) ?_
  refine tt_get rfl (by assumption) (by rfl) ?_
  refine tt_op rfl rfl ?_
  refine z_icmp rfl (by first | assumption | (unfold R3; omega)) (by first | assumption | (unfold R3; omega)) (fun cm => ?_) (fun cm => ?_)
  rotate_left
  · simp only [zcd] at cm
    refine tt_op rfl rfl ?_
    refine tt_ireturn rfl rfl (by rfl) (Nat.le_of_ble_eq_true rfl) (Nat.le_of_ble_eq_true rfl) ?_
    exact ⟨rfl, Or.inr (Or.inr (Or.inl ⟨⟨x1, x2, x3⟩, hh, by omega, rfl, rfl⟩))⟩
  simp only [zcd] at cm
  have hm14 : m < 14 := by omega
  refine tt_op rfl rfl ?_
  refine tt_get rfl (by assumption) (by rfl) ?_
  refine tt_op rfl rfl ?_
  refine tt_op rfl rfl ?_
  refine tt_op rfl rfl ?_
  refine tt_callV (M' := xmX0_add) rfl rfl rfl k1 rfl (c_add HC (x, y, z) hu hm14) ?_
  rintro r1 n1 h1 ⟨rfl, rfl, HC1, e1⟩
  have g0 : h1 0 = some soC := by rw [e1 0 (by omega)]; exact h0
  refine tt_op rfl rfl ?_
  refine tt_get rfl g0 (by rfl) ?_
  refine xHu_keep (h' := h1) (m' := m) (P' := P) HU (fun j hj => e1 j (by omega)) (fun h1 => xT xmX5_point _ _ _ _ _ h1 _) ?_
  rintro ⟨F, E, CB, six, g5⟩ ⟨ad, f, Hf⟩ ⟨b, g7⟩ ⟨mo, g8⟩
  refine tt_callV (M' := xmX1_build) rfl rfl rfl g5 rfl (c_build HC1 F g5 ad f Hf b g7 mo g8) ?_
  rintro r2 n2 h2 ⟨rfl, rfl, HU2, e2⟩
  have o2 : ∀ j, 57 ≤ j → h2 j = h j := fun j hj => by rw [e2 j (by omega), e1 j (by omega)]
  have a0 : h2 0 = some soC := by rw [e2 0 (by omega)]; exact g0
  have HC2 : xCl h2 (m + 1) (vup P m (x, y, z)) := by
    obtain ⟨q1, q2, q3, q4, q5⟩ := HC1
    exact ⟨by rw [e2 1 (by omega)]; exact q1, by rw [e2 2 (by omega)]; exact q2, by rw [e2 3 (by omega)]; exact q3, by rw [e2 4 (by omega)]; exact q4, q5⟩
  obtain ⟨S3, o3⟩ := st_new H' a0 HC2 HU2 o2
  have a57 : h2 57 = some (seC ct.1) := by rw [o2 57 (by omega)]; exact h57
  have a59 : h2 59 = some (moC s.1) := by rw [o2 59 (by omega)]; exact (moH_of hmo).1
  refine tt_op rfl rfl ?_
  refine tt_callV (M' := xmX5_forget) rfl rfl rfl a0 rfl (c_forget a0 s a59 ct.1 a57) ?_
  rintro r3 n3 h3 ⟨rfl, rfl, rfl⟩
  have b0 := S3.1
  have b1 := S3.2.1.1
  refine tt_op rfl rfl ?_
  refine tt_get rfl b0 (by rfl) ?_
  refine tt_get rfl b1 (by rfl) ?_
  refine tt_op rfl rfl ?_
  refine z_isub rfl ?_
  rw [show ((m + 1 : Nat) : Int) - 1 = (m : Int) by omega]
  refine tt_ireturn rfl rfl (by rfl) (Nat.le_of_ble_eq_true rfl) (Nat.le_of_ble_eq_true rfl) ?_
  exact ⟨rfl, Or.inr (Or.inr (Or.inr ⟨⟨x1, x2, x3⟩, hh, hm14, rfl, S3, o3⟩))⟩
set_option maxRecDepth 10000 in
set_option maxHeartbeats 1000000 in
theorem c_clear (H : xSt h m P ct s) : xCall xmX5_clear 100 0 0 [.ref 0] n h (fun r n' h' => n' = n ∧ r = some (zI m) ∧ xSt h' 0 P (0, ct.2) (0, s.2) ∧ ∀ j, 64 ≤ j → h' j = h j) := by
  have H' := H
  obtain ⟨h0, HC, HU, ⟨h57, h58, hc⟩, ⟨hmo, hs⟩, d, lv, se, me, le, row, h62, h63⟩ := H
  obtain ⟨k1, k2, k3, k4, k5, k6⟩ := HC
  refine xCall.of xgX5_clear rfl ?_
  refine tt_op rfl rfl ?_
  refine tt_get rfl (by assumption) (by rfl) ?_
  refine tt_get rfl (by assumption) (by rfl) ?_
  refine tt_op rfl rfl ?_
  refine tt_op rfl rfl ?_
  refine tt_get rfl (by assumption) (by rfl) ?_
  refine tt_op rfl rfl ?_
  refine tt_put rfl (k1) rfl (by decide) (by rfl) (by rfl) rfl ?_
  have HC1 : xCl (xup h 1 (.inr (0, [zI (0 : Nat), .ref 2, .ref 3, .ref 4]))) 0 P := ⟨xup_s, by rw [xup_n (by omega)]; exact k2, by rw [xup_n (by omega)]; exact k3, by rw [xup_n (by omega)]; exact k4, by omega, k6⟩
  have g0 : ∀ e, xup h 1 e 0 = some soC := fun e => by rw [xup_n (by omega)]; exact h0
  refine tt_op rfl rfl ?_
  refine tt_get rfl (g0 _) (by rfl) ?_
  show xT xmX5_clear _ _ _ _ _ (xup h 1 (.inr (0, [zI (0 : Nat), .ref 2, .ref 3, .ref 4]))) _
  refine xHu_keep (m' := m) (P' := P) HU (h' := xup h 1 (.inr (0, [zI (0 : Nat), .ref 2, .ref 3, .ref 4]))) (fun j hj => xup_n (by omega)) (fun h1 => xT xmX5_clear _ _ _ _ _ h1 _) ?_
  rintro ⟨F, E, CB, six, g5⟩ ⟨ad, f, Hf⟩ ⟨b, g7⟩ ⟨mo, g8⟩
  refine tt_callV (M' := xmX1_build) rfl rfl rfl g5 rfl (c_build HC1 F g5 ad f Hf b g7 mo g8) ?_
  rintro r2 n2 h2 ⟨rfl, rfl, HU2, e2⟩
  have o2 : ∀ j, 57 ≤ j → h2 j = h j := fun j hj => by rw [e2 j (by omega), xup_n (by omega)]
  have a0 : h2 0 = some soC := by rw [e2 0 (by omega)]; exact g0 _
  have HC2 : xCl h2 0 P := by
    obtain ⟨q1, q2, q3, q4, q5⟩ := HC1
    exact ⟨by rw [e2 1 (by omega)]; exact q1, by rw [e2 2 (by omega)]; exact q2, by rw [e2 3 (by omega)]; exact q3, by rw [e2 4 (by omega)]; exact q4, q5⟩
  obtain ⟨S3, o3⟩ := st_new H' a0 HC2 HU2 o2
  have a57 : h2 57 = some (seC ct.1) := by rw [o2 57 (by omega)]; exact h57
  have a59 : h2 59 = some (moC s.1) := by rw [o2 59 (by omega)]; exact (moH_of hmo).1
  refine tt_op rfl rfl ?_
  refine tt_callV (M' := xmX5_forget) rfl rfl rfl a0 rfl (c_forget a0 s a59 ct.1 a57) ?_
  rintro r3 n3 h3 ⟨rfl, rfl, rfl⟩
  refine tt_op rfl rfl ?_
  refine tt_ireturn rfl rfl (by rfl) (Nat.le_of_ble_eq_true rfl) (Nat.le_of_ble_eq_true rfl) ?_
  exact ⟨rfl, rfl, S3, o3⟩
end SO2
