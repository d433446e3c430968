/-! The reference: shadows -/
theorem stF_cg {su sv su' sv' : Nat → Int} {C : Nat → Prop} {m p : Nat} (hp : p < m) (h : ∀ j, j < m → su j = su' j ∧ sv j = sv' j) (h1 : stF su sv C m p) : stF su' sv' C m p := by
  intro q hq cq hqp
  obtain ⟨a, b⟩ := h1 q hq cq hqp
  have sme : ∀ x, x < m → (smF su sv p x ↔ smF su' sv' p x) := fun x hx => by
    unfold smF; rw [(h p hp).1, (h p hp).2, (h x hx).1, (h x hx).2]
  have sde : ∀ x y z, x < m → y < m → z < m → sdF su sv x y z = sdF su' sv' x y z := fun x y z hx hy hz => by
    unfold sdF; rw [(h x hx).1, (h x hx).2, (h y hy).1, (h y hy).2, (h z hz).1, (h z hz).2]
  refine ⟨fun e => a ((sme q hq).2 e), fun e r hr cr hrp er => ?_⟩
  obtain ⟨c, d⟩ := b (fun e2 => e ((sme q hq).1 e2)) r hr cr hrp (fun e2 => er ((sme r (by omega)).1 e2))
  refine ⟨fun e2 => c ?_, fun s hs cs hsp es e2 => d s hs cs hsp (fun e3 => es ((sme s (by omega)).1 e3)) ?_⟩
  · unfold bwF at e2 ⊢
    rw [sde p q r hp hq (by omega), (h p hp).1, (h p hp).2, (h q hq).1, (h q hq).2, (h r (by omega)).1, (h r (by omega)).2]; exact e2
  · unfold trF at e2 ⊢
    rw [sde q r s hq (by omega) (by omega), sde q r p hq (by omega) hp, sde r s p (by omega) (by omega) hp, sde s q p (by omega) hq hp]; exact e2
section MA
variable {h : xHp} {m : Nat} {P : Nat → V3} {bu tb fl co fa : Nat} {fb fs fr : Nat → Nat} {nn : Nat → V3} {lv : Nat → Int} {a : V3} {fat : Nat → Nat} {w : Int × V3} {cm : Int} {cX cY cZ cD su sv : Nat → Int} {tu : Nat} {im : Nat → Int} {rk ba : Nat → Nat} {go : Nat → Int}
variable {n : Nat} {hh : xHp}
set_option maxRecDepth 10000 in
theorem m_side {p q r : Nat} (hp : p < 14) (hq : q < 14) (hr : r < 14) : xPure xmX6_side 1 [.ref 64, zI p, zI q, zI r] n (mdH h m P bu tb fl co fa fb fs fr nn lv a fat w cm cX cY cZ cD su sv tu im rk ba go) (zJ (sdF su sv p q r)) := by
  refine xCall.of xgX6_side rfl ?_
  refine tt_op rfl rfl ?_
  refine tt_get rfl md64 (by rfl) ?_
  refine tt_op rfl rfl ?_
  refine z_lald rfl md80 rfl (by omega) (by decide) ?_
  refine tt_op rfl rfl ?_
  refine tt_get rfl md64 (by rfl) ?_
  refine tt_op rfl rfl ?_
  refine z_lald rfl md80 rfl (by omega) (by decide) ?_
  refine z_lsub rfl ?_
  refine tt_op rfl rfl ?_
  refine tt_get rfl md64 (by rfl) ?_
  refine tt_op rfl rfl ?_
  refine z_lald rfl md81 rfl (by omega) (by decide) ?_
  refine tt_op rfl rfl ?_
  refine tt_get rfl md64 (by rfl) ?_
  refine tt_op rfl rfl ?_
  refine z_lald rfl md81 rfl (by omega) (by decide) ?_
  refine z_lsub rfl ?_
  refine z_lmul rfl ?_
  refine tt_op rfl rfl ?_
  refine tt_get rfl md64 (by rfl) ?_
  refine tt_op rfl rfl ?_
  refine z_lald rfl md81 rfl (by omega) (by decide) ?_
  refine tt_op rfl rfl ?_
  refine tt_get rfl md64 (by rfl) ?_
  refine tt_op rfl rfl ?_
  refine z_lald rfl md81 rfl (by omega) (by decide) ?_
  refine z_lsub rfl ?_
  refine tt_op rfl rfl ?_
  refine tt_get rfl md64 (by rfl) ?_
  refine tt_op rfl rfl ?_
  refine z_lald rfl md80 rfl (by omega) (by decide) ?_
  refine tt_op rfl rfl ?_
  refine tt_get rfl md64 (by rfl) ?_
  refine tt_op rfl rfl ?_
  refine z_lald rfl md80 rfl (by omega) (by decide) ?_
  refine z_lsub rfl ?_
  refine z_lmul rfl ?_
  refine z_lsub rfl ?_
  refine tt_lreturn rfl rfl (Nat.le_of_ble_eq_true rfl) (Nat.le_of_ble_eq_true rfl) ?_
  exact ⟨rfl, rfl, rfl⟩
/-- what the shadow's numbers keep to -/
def sBd2 (su sv : Nat → Int) (m : Nat) : Prop := ∀ j, j < m → (-800 ≤ su j ∧ su j ≤ 800) ∧ -800 ≤ sv j ∧ sv j ≤ 800
theorem sd_bd {su sv : Nat → Int} {m p q r : Nat} (h : sBd2 su sv m) (hp : p < m) (hq : q < m) (hr : r < m) : -10000000 ≤ sdF su sv p q r ∧ sdF su sv p q r ≤ 10000000 := by
  have a := h p hp; have b := h q hq; have c := h r hr
  have m1 := mul_bd (a := su q - su p) (b := sv r - sv p) (A := 1600) (B := 1600) (by omega) (by omega)
  have m2 := mul_bd (a := sv q - sv p) (b := su r - su p) (A := 1600) (B := 1600) (by omega) (by omega)
  unfold sdF
  omega
set_option maxRecDepth 10000 in
theorem m_isSame (hb : sBd2 su sv m) (hm : m ≤ 14) {p q : Nat} (hp : p < m) (hq : q < m) (v : Value) (h1 : smF su sv p q → v = zI 1) (h0 : ¬ smF su sv p q → v = zI 0) : xPure xmX6_isSame 1 [.ref 64, zI p, zI q] n (mdH h m P bu tb fl co fa fb fs fr nn lv a fat w cm cX cY cZ cD su sv tu im rk ba go) v := by
  obtain ⟨⟨a1, a2⟩, a3, a4⟩ := hb p hp
  obtain ⟨⟨b1, b2⟩, b3, b4⟩ := hb q hq
  refine xCall.of xgX6_isSame rfl ?_
  refine tt_op rfl rfl ?_
  refine tt_get rfl md64 (by rfl) ?_
  refine tt_op rfl rfl ?_
  refine z_lald rfl md80 rfl (by omega) (by decide) ?_
  refine tt_op rfl rfl ?_
  refine tt_get rfl md64 (by rfl) ?_
  refine tt_op rfl rfl ?_
  refine z_lald rfl md80 rfl (by omega) (by decide) ?_
  refine z_lif rfl rfl ⟨by omega, by omega⟩ ⟨by omega, by omega⟩ (fun c1 => ?_) (fun c1 => ?_)
  · simp only [zcd] at c1
    refine tt_op rfl rfl ?_
    refine tt_ireturn rfl rfl (by rfl) (Nat.le_of_ble_eq_true rfl) (Nat.le_of_ble_eq_true rfl) ?_
    rw [h0 (fun e => c1 e.1)]
    exact ⟨rfl, rfl, rfl⟩
  simp only [zcd] at c1
  refine tt_op rfl rfl ?_
  refine tt_get rfl md64 (by rfl) ?_
  refine tt_op rfl rfl ?_
  refine z_lald rfl md81 rfl (by omega) (by decide) ?_
  refine tt_op rfl rfl ?_
  refine tt_get rfl md64 (by rfl) ?_
  refine tt_op rfl rfl ?_
  refine z_lald rfl md81 rfl (by omega) (by decide) ?_
  refine z_lif rfl rfl ⟨by omega, by omega⟩ ⟨by omega, by omega⟩ (fun c2 => ?_) (fun c2 => ?_)
  · simp only [zcd] at c2
    refine tt_op rfl rfl ?_
    refine tt_ireturn rfl rfl (by rfl) (Nat.le_of_ble_eq_true rfl) (Nat.le_of_ble_eq_true rfl) ?_
    rw [h0 (fun e => c2 e.2)]
    exact ⟨rfl, rfl, rfl⟩
  · simp only [zcd] at c2
    refine tt_op rfl rfl ?_
    refine tt_goto rfl ?_
    refine tt_ireturn rfl rfl (by rfl) (Nat.le_of_ble_eq_true rfl) (Nat.le_of_ble_eq_true rfl) ?_
    rw [h1 ⟨by omega, by omega⟩]
    exact ⟨rfl, rfl, rfl⟩
set_option maxRecDepth 10000 in
theorem m_isBetween (hb : sBd2 su sv m) (hm : m ≤ 14) {p q r : Nat} (hp : p < m) (hq : q < m) (hr : r < m) (v : Value) (h1 : bwF su sv p q r → v = zI 1) (h0 : ¬ bwF su sv p q r → v = zI 0) : xPure xmX6_isBetween 2 [.ref 64, zI p, zI q, zI r] n (mdH h m P bu tb fl co fa fb fs fr nn lv a fat w cm cX cY cZ cD su sv tu im rk ba go) v := by
  have ba1 := hb p hp; have ba2 := hb q hq; have ba3 := hb r hr
  have s1 := sd_bd hb hp hq hr
  have m1 := mul_bd (a := su q - su p) (b := su r - su p) (A := 1600) (B := 1600) (by omega) (by omega)
  have m2 := mul_bd (a := sv q - sv p) (b := sv r - sv p) (A := 1600) (B := 1600) (by omega) (by omega)
  have no : ¬ bwF su sv p q r → ∀ l4 l5, xT xmX6_isBetween (2, 0, 0, 0, 0) 80 [some (.ref 64), some (zI p), some (zI q), some (zI r), l4, l5] [] n (mdH h m P bu tb fl co fa fb fs fr nn lv a fat w cm cX cY cZ cD su sv tu im rk ba go) (fun r n' h' => r = some v ∧ n' = n ∧ h' = (mdH h m P bu tb fl co fa fb fs fr nn lv a fat w cm cX cY cZ cD su sv tu im rk ba go)) := by
    intro e l4 l5
    refine tt_op rfl rfl ?_
    refine tt_ireturn rfl rfl (by rfl) (Nat.le_of_ble_eq_true rfl) (Nat.le_of_ble_eq_true rfl) ?_
    rw [h0 e]
    exact ⟨rfl, rfl, rfl⟩
  refine xCall.of xgX6_isBetween rfl ?_
  refine tt_op rfl rfl ?_
  refine tt_get rfl md64 (by rfl) ?_
  refine tt_op rfl rfl ?_
  refine z_lald rfl md80 rfl (by omega) (by decide) ?_
  refine tt_op rfl rfl ?_
  refine tt_get rfl md64 (by rfl) ?_
  refine tt_op rfl rfl ?_
  refine z_lald rfl md80 rfl (by omega) (by decide) ?_
  refine z_lsub rfl ?_
  refine tt_op rfl rfl ?_
  refine tt_get rfl md64 (by rfl) ?_
  refine tt_op rfl rfl ?_
  refine z_lald rfl md80 rfl (by omega) (by decide) ?_
  refine tt_op rfl rfl ?_
  refine tt_get rfl md64 (by rfl) ?_
  refine tt_op rfl rfl ?_
  refine z_lald rfl md80 rfl (by omega) (by decide) ?_
  refine z_lsub rfl ?_
  refine z_lmul rfl ?_
  refine tt_op rfl rfl ?_
  refine tt_get rfl md64 (by rfl) ?_
  refine tt_op rfl rfl ?_
  refine z_lald rfl md81 rfl (by omega) (by decide) ?_
  refine tt_op rfl rfl ?_
  refine tt_get rfl md64 (by rfl) ?_
  refine tt_op rfl rfl ?_
  refine z_lald rfl md81 rfl (by omega) (by decide) ?_
  refine z_lsub rfl ?_
  refine tt_op rfl rfl ?_
  refine tt_get rfl md64 (by rfl) ?_
  refine tt_op rfl rfl ?_
  refine z_lald rfl md81 rfl (by omega) (by decide) ?_
  refine tt_op rfl rfl ?_
  refine tt_get rfl md64 (by rfl) ?_
  refine tt_op rfl rfl ?_
  refine z_lald rfl md81 rfl (by omega) (by decide) ?_
  refine z_lsub rfl ?_
  refine z_lmul rfl ?_
  refine z_ladd rfl ?_
  refine tt_op rfl rfl ?_
  refine tt_op rfl rfl ?_
  refine tt_op rfl rfl ?_
  refine tt_op rfl rfl ?_
  refine tt_op rfl rfl ?_
  refine tt_pV rfl rfl rfl md64 rfl (m_side (show p < 14 by omega) (show q < 14 by omega) (show r < 14 by omega)) ?_
  refine tt_op rfl rfl ?_
  refine z_lif rfl rfl ⟨by omega, by omega⟩ ⟨by decide, by decide⟩ (fun c1 => ?_) (fun c1 => ?_)
  · simp only [zcd] at c1
    exact no (fun e => c1 e.1) _ _
  simp only [zcd] at c1
  refine tt_op rfl rfl ?_
  refine tt_op rfl rfl ?_
  refine z_lif rfl rfl ⟨by omega, by omega⟩ ⟨by decide, by decide⟩ (fun c2 => ?_) (fun c2 => ?_)
  · simp only [zcd] at c2
    exact no (fun e => by have := e.2; omega) _ _
  · simp only [zcd] at c2
    refine tt_op rfl rfl ?_
    refine tt_goto rfl ?_
    refine tt_ireturn rfl rfl (by rfl) (Nat.le_of_ble_eq_true rfl) (Nat.le_of_ble_eq_true rfl) ?_
    rw [h1 ⟨by omega, by omega⟩]
    exact ⟨rfl, rfl, rfl⟩
set_option maxRecDepth 10000 in
theorem m_isInTri (hb : sBd2 su sv m) (hm : m ≤ 14) {p q r s : Nat} (hp : p < m) (hq : q < m) (hr : r < m) (hs : s < m) (v : Value) (h1 : trF su sv p q r s → v = zI 1) (h0 : ¬ trF su sv p q r s → v = zI 0) : xPure xmX6_isInTriangle 2 [.ref 64, zI p, zI q, zI r, zI s] n (mdH h m P bu tb fl co fa fb fs fr nn lv a fat w cm cX cY cZ cD su sv tu im rk ba go) v := by
  have s1 := sd_bd hb hq hr hp
  have s2 := sd_bd hb hr hs hp
  have s3 := sd_bd hb hs hq hp
  have s4 := sd_bd hb hq hr hs
  have p1 : p < 14 := by omega
  have p2 : q < 14 := by omega
  have p3 : r < 14 := by omega
  have p4 : s < 14 := by omega
  have no : ¬ trF su sv p q r s → ∀ ls, xT xmX6_isInTriangle (2, 0, 0, 0, 0) 88 ls [] n (mdH h m P bu tb fl co fa fb fs fr nn lv a fat w cm cX cY cZ cD su sv tu im rk ba go) (fun r n' h' => r = some v ∧ n' = n ∧ h' = (mdH h m P bu tb fl co fa fb fs fr nn lv a fat w cm cX cY cZ cD su sv tu im rk ba go)) := by
    intro e ls
    refine tt_op rfl rfl ?_
    refine tt_ireturn rfl rfl (by rfl) (Nat.le_of_ble_eq_true rfl) (Nat.le_of_ble_eq_true rfl) ?_
    rw [h0 e]
    exact ⟨rfl, rfl, rfl⟩
  have yes : trF su sv p q r s → ∀ ls, xT xmX6_isInTriangle (2, 0, 0, 0, 0) 84 ls [] n (mdH h m P bu tb fl co fa fb fs fr nn lv a fat w cm cX cY cZ cD su sv tu im rk ba go) (fun r n' h' => r = some v ∧ n' = n ∧ h' = (mdH h m P bu tb fl co fa fb fs fr nn lv a fat w cm cX cY cZ cD su sv tu im rk ba go)) := by
    intro e ls
    refine tt_op rfl rfl ?_
    refine tt_goto rfl ?_
    refine tt_ireturn rfl rfl (by rfl) (Nat.le_of_ble_eq_true rfl) (Nat.le_of_ble_eq_true rfl) ?_
    rw [h1 e]
    exact ⟨rfl, rfl, rfl⟩
  refine xCall.of xgX6_isInTriangle rfl ?_
  refine tt_op rfl rfl ?_
  refine tt_op rfl rfl ?_
  refine tt_op rfl rfl ?_
  refine tt_op rfl rfl ?_
  refine tt_pV rfl rfl rfl md64 rfl (m_side p2 p3 p1) ?_
  refine tt_op rfl rfl ?_
  refine tt_op rfl rfl ?_
  refine tt_op rfl rfl ?_
  refine tt_op rfl rfl ?_
  refine tt_op rfl rfl ?_
  refine tt_pV rfl rfl rfl md64 rfl (m_side p3 p4 p1) ?_
  refine tt_op rfl rfl ?_
  refine tt_op rfl rfl ?_
  refine tt_op rfl rfl ?_
  refine tt_op rfl rfl ?_
  refine tt_op rfl rfl ?_
  refine tt_pV rfl rfl rfl md64 rfl (m_side p4 p2 p1) ?_
  refine tt_op rfl rfl ?_
  refine tt_op rfl rfl ?_
  refine tt_op rfl rfl ?_
  refine tt_op rfl rfl ?_
  refine tt_op rfl rfl ?_
  refine tt_pV rfl rfl rfl md64 rfl (m_side p2 p3 p4) ?_
  refine tt_op rfl rfl ?_
  have R : ∀ z : Int, -10000000 ≤ z ∧ z ≤ 10000000 → R6 z := fun z hz => ⟨by omega, by omega⟩
  refine z_lif rfl rfl (R _ s4) ⟨by decide, by decide⟩ (fun c0 => ?_) (fun c0 => ?_)
  · simp only [zcd] at c0
    exact no (fun e => e.1 c0) _
  simp only [zcd] at c0
  have neg : ¬ (0 ≤ sdF su sv q r p ∧ 0 ≤ sdF su sv r s p ∧ 0 ≤ sdF su sv s q p) → xT xmX6_isInTriangle (2, 0, 0, 0, 0) 63 [some (.ref 64), some (zI p), some (zI q), some (zI r), some (zI s), some (zJ (sdF su sv q r p)), none, some (zJ (sdF su sv r s p)), none, some (zJ (sdF su sv s q p)), none] [] n (mdH h m P bu tb fl co fa fb fs fr nn lv a fat w cm cX cY cZ cD su sv tu im rk ba go) (fun r n' h' => r = some v ∧ n' = n ∧ h' = (mdH h m P bu tb fl co fa fb fs fr nn lv a fat w cm cX cY cZ cD su sv tu im rk ba go)) := by
    intro hn
    refine tt_op rfl rfl ?_
    refine tt_op rfl rfl ?_
    refine z_lif rfl rfl (R _ s1) ⟨by decide, by decide⟩ (fun d1 => ?_) (fun d1 => ?_)
    · simp only [zcd] at d1
      exact no (fun e => by rcases e.2 with e | e <;> omega) _
    simp only [zcd] at d1
    refine tt_op rfl rfl ?_
    refine tt_op rfl rfl ?_
    refine z_lif rfl rfl (R _ s2) ⟨by decide, by decide⟩ (fun d2 => ?_) (fun d2 => ?_)
    · simp only [zcd] at d2
      exact no (fun e => by rcases e.2 with e | e <;> omega) _
    simp only [zcd] at d2
    refine tt_op rfl rfl ?_
    refine tt_op rfl rfl ?_
    refine z_lif rfl rfl (R _ s3) ⟨by decide, by decide⟩ (fun d3 => ?_) (fun d3 => ?_)
    · simp only [zcd] at d3
      exact no (fun e => by rcases e.2 with e | e <;> omega) _
    · simp only [zcd] at d3
      exact yes ⟨c0, Or.inr ⟨by omega, by omega, by omega⟩⟩ _
  refine tt_op rfl rfl ?_
  refine tt_op rfl rfl ?_
  refine z_lif rfl rfl (R _ s1) ⟨by decide, by decide⟩ (fun d1 => ?_) (fun d1 => ?_)
  · simp only [zcd] at d1
    exact neg (by omega)
  simp only [zcd] at d1
  refine tt_op rfl rfl ?_
  refine tt_op rfl rfl ?_
  refine z_lif rfl rfl (R _ s2) ⟨by decide, by decide⟩ (fun d2 => ?_) (fun d2 => ?_)
  · simp only [zcd] at d2
    exact neg (by omega)
  simp only [zcd] at d2
  refine tt_op rfl rfl ?_
  refine tt_op rfl rfl ?_
  refine z_lif rfl rfl (R _ s3) ⟨by decide, by decide⟩ (fun d3 => ?_) (fun d3 => ?_)
  · simp only [zcd] at d3
    exact yes ⟨c0, Or.inl ⟨by omega, by omega, by omega⟩⟩ _
  · simp only [zcd] at d3
    exact neg (by omega)
set_option maxRecDepth 10000 in
set_option maxHeartbeats 1000000 in
theorem m_stands (hS : SF P m (fl, co, fa, fb, fs, fr, nn, lv, fat)) (hb : sBd2 su sv m) {p : Nat} (hp : p < m) (v : Value) (h1 : stF su sv (isCor P m) m p → v = zI 1) (h0 : ¬ stF su sv (isCor P m) m p → v = zI 0) : xPure xmX6_stands 3 [.ref 64, zI p] n (mdH h m P bu tb fl co fa fb fs fr nn lv a fat w cm cX cY cZ cD su sv tu im rk ba go) v := by
  obtain ⟨_, ⟨hm, _, _⟩, _⟩ := SF_u hS
  have no : ¬ stF su sv (isCor P m) m p → ∀ ls, xT xmX6_stands (3, 0, 0, 0, 0) 40 ls [] n (mdH h m P bu tb fl co fa fb fs fr nn lv a fat w cm cX cY cZ cD su sv tu im rk ba go) (fun r n' h' => r = some v ∧ n' = n ∧ h' = (mdH h m P bu tb fl co fa fb fs fr nn lv a fat w cm cX cY cZ cD su sv tu im rk ba go)) := by
    intro e ls
    refine tt_op rfl rfl ?_
    refine tt_ireturn rfl rfl (by rfl) (Nat.le_of_ble_eq_true rfl) (Nat.le_of_ble_eq_true rfl) ?_
    rw [h0 e]
    exact ⟨rfl, rfl, rfl⟩
  have no2 : ¬ stF su sv (isCor P m) m p → ∀ ls, xT xmX6_stands (3, 0, 0, 0, 0) 84 ls [] n (mdH h m P bu tb fl co fa fb fs fr nn lv a fat w cm cX cY cZ cD su sv tu im rk ba go) (fun r n' h' => r = some v ∧ n' = n ∧ h' = (mdH h m P bu tb fl co fa fb fs fr nn lv a fat w cm cX cY cZ cD su sv tu im rk ba go)) := by
    intro e ls
    refine tt_op rfl rfl ?_
    refine tt_ireturn rfl rfl (by rfl) (Nat.le_of_ble_eq_true rfl) (Nat.le_of_ble_eq_true rfl) ?_
    rw [h0 e]
    exact ⟨rfl, rfl, rfl⟩
  have no3 : ¬ stF su sv (isCor P m) m p → ∀ ls, xT xmX6_stands (3, 0, 0, 0, 0) 132 ls [] n (mdH h m P bu tb fl co fa fb fs fr nn lv a fat w cm cX cY cZ cD su sv tu im rk ba go) (fun r n' h' => r = some v ∧ n' = n ∧ h' = (mdH h m P bu tb fl co fa fb fs fr nn lv a fat w cm cX cY cZ cD su sv tu im rk ba go)) := by
    intro e ls
    refine tt_op rfl rfl ?_
    refine tt_ireturn rfl rfl (by rfl) (Nat.le_of_ble_eq_true rfl) (Nat.le_of_ble_eq_true rfl) ?_
    rw [h0 e]
    exact ⟨rfl, rfl, rfl⟩
  refine xCall.of xgX6_stands rfl ?_
  refine tt_op rfl rfl ?_
  refine tt_op rfl rfl ?_
  have qloop : ∀ (j q : Nat) (l3 l4 : Option Value), q + j = m → (∀ q', q' < q → isCor P m q' → q' ≠ p → (smF su sv p q' → ¬ q' < p) ∧ (¬ smF su sv p q' → ∀ r, r < q' → isCor P m r → r ≠ p → ¬ smF su sv p r → ¬ bwF su sv p q' r ∧ ∀ s, s < r → isCor P m s → s ≠ p → ¬ smF su sv p s → ¬ trF su sv p q' r s)) → xT xmX6_stands (3, 0, 0, 0, 0) 2 [some (.ref 64), some (zI p), some (zI q), l3, l4] [] n (mdH h m P bu tb fl co fa fb fs fr nn lv a fat w cm cX cY cZ cD su sv tu im rk ba go) (fun r n' h' => r = some v ∧ n' = n ∧ h' = (mdH h m P bu tb fl co fa fb fs fr nn lv a fat w cm cX cY cZ cD su sv tu im rk ba go)) := by
    intro j
    induction j with
    | zero =>
      intro q l3 l4 hq hok
      have : q = m := by omega
      subst this
      refine tt_op rfl rfl ?_
      refine tt_op rfl rfl ?_
      refine tt_get rfl md64 (by rfl) ?_
      refine z_icmp rfl (by first | assumption | (unfold R3; omega)) (by first | assumption | (unfold R3; omega)) (fun c => ?_) (fun c => absurd (by simp only [zcd] <;> omega) c)
      refine tt_op rfl rfl ?_
      refine tt_ireturn rfl rfl (by rfl) (Nat.le_of_ble_eq_true rfl) (Nat.le_of_ble_eq_true rfl) ?_
      rw [h1 hok]
      exact ⟨rfl, rfl, rfl⟩
    | succ j ih =>
      intro q l3 l4 hq hok
      have nxt : ∀ l3 l4, (isCor P m q → q ≠ p → (smF su sv p q → ¬ q < p) ∧ (¬ smF su sv p q → ∀ r, r < q → isCor P m r → r ≠ p → ¬ smF su sv p r → ¬ bwF su sv p q r ∧ ∀ s, s < r → isCor P m s → s ≠ p → ¬ smF su sv p s → ¬ trF su sv p q r s)) → xT xmX6_stands (3, 0, 0, 0, 0) 146 [some (.ref 64), some (zI p), some (zI q), l3, l4] [] n (mdH h m P bu tb fl co fa fb fs fr nn lv a fat w cm cX cY cZ cD su sv tu im rk ba go) (fun r n' h' => r = some v ∧ n' = n ∧ h' = (mdH h m P bu tb fl co fa fb fs fr nn lv a fat w cm cX cY cZ cD su sv tu im rk ba go)) := by
        intro l3 l4 hk
        refine z_iinc rfl rfl rfl ?_
        refine tt_goto rfl ?_
        refine ih (q + 1) _ _ (by omega) (fun q' hq' => ?_)
        by_cases e : q' = q
        · subst e; exact hk
        · exact hok q' (by omega)
      refine tt_op rfl rfl ?_
      refine tt_op rfl rfl ?_
      refine tt_get rfl md64 (by rfl) ?_
      refine z_icmp rfl (by first | assumption | (unfold R3; omega)) (by first | assumption | (unfold R3; omega)) (fun c => absurd c (by simp only [zcd] <;> omega)) (fun c => ?_)
      refine tt_op rfl rfl ?_
      refine tt_op rfl rfl ?_
      by_cases cq : isCor P m q
      rotate_left
      · refine tt_pV rfl rfl rfl md64 rfl (m_isC hS (show q < 14 by omega) (zI 0) (fun e => absurd e cq) (fun _ => rfl)) ?_
        refine z_if rfl (by first | assumption | (unfold R3; omega)) (fun c => ?_) (fun c => absurd (by simp only [zcd] <;> omega) c)
        exact nxt _ _ (fun e => absurd e cq)
      refine tt_pV rfl rfl rfl md64 rfl (m_isC hS (show q < 14 by omega) (zI 1) (fun _ => rfl) (fun e => absurd cq e)) ?_
      refine z_if rfl (by first | assumption | (unfold R3; omega)) (fun c => absurd c (by simp only [zcd] <;> omega)) (fun c => ?_)
      refine tt_op rfl rfl ?_
      refine tt_op rfl rfl ?_
      by_cases eqp : q = p
      · subst eqp
        refine z_icmp rfl (by first | assumption | (unfold R3; omega)) (by first | assumption | (unfold R3; omega)) (fun c => absurd c (by simp only [zcd] <;> omega)) (fun c => ?_)
        refine tt_goto rfl ?_
        exact nxt _ _ (fun _ e => absurd rfl e)
      refine z_icmp rfl (by first | assumption | (unfold R3; omega)) (by first | assumption | (unfold R3; omega)) (fun c => ?_) (fun c => absurd (by simp only [zcd] <;> omega) c)
      refine tt_op rfl rfl ?_
      refine tt_op rfl rfl ?_
      refine tt_op rfl rfl ?_
      by_cases sq : smF su sv p q
      · refine tt_pV rfl rfl rfl md64 rfl (m_isSame hb hm hp (show q < m by omega) (zI 1) (fun _ => rfl) (fun e => absurd sq e)) ?_
        refine z_if rfl (by first | assumption | (unfold R3; omega)) (fun c => absurd c (by simp only [zcd] <;> omega)) (fun c => ?_)
        refine tt_op rfl rfl ?_
        refine tt_op rfl rfl ?_
        refine z_icmp rfl (by first | assumption | (unfold R3; omega)) (by first | assumption | (unfold R3; omega)) (fun c1 => ?_) (fun c1 => ?_)
        · simp only [zcd] at c1
          exact nxt _ _ (fun _ _ => ⟨fun _ => by omega, fun e => absurd sq e⟩)
        · simp only [zcd] at c1
          exact no (fun e => (e q (by omega) cq eqp).1 sq (by omega)) _
      refine tt_pV rfl rfl rfl md64 rfl (m_isSame hb hm hp (show q < m by omega) (zI 0) (fun e => absurd e sq) (fun _ => rfl)) ?_
      refine z_if rfl (by first | assumption | (unfold R3; omega)) (fun c => ?_) (fun c => absurd (by simp only [zcd] <;> omega) c)
      refine tt_op rfl rfl ?_
      refine tt_op rfl rfl ?_
      have rloop : ∀ (j r : Nat) (l4 : Option Value), r + j = q → (∀ r', r' < r → isCor P m r' → r' ≠ p → ¬ smF su sv p r' → ¬ bwF su sv p q r' ∧ ∀ s, s < r' → isCor P m s → s ≠ p → ¬ smF su sv p s → ¬ trF su sv p q r' s) → xT xmX6_stands (3, 0, 0, 0, 0) 44 [some (.ref 64), some (zI p), some (zI q), some (zI r), l4] [] n (mdH h m P bu tb fl co fa fb fs fr nn lv a fat w cm cX cY cZ cD su sv tu im rk ba go) (fun r n' h' => r = some v ∧ n' = n ∧ h' = (mdH h m P bu tb fl co fa fb fs fr nn lv a fat w cm cX cY cZ cD su sv tu im rk ba go)) := by
        intro j
        induction j with
        | zero =>
          intro r l4 hr hokr
          have : r = q := by omega
          subst this
          refine tt_op rfl rfl ?_
          refine tt_op rfl rfl ?_
          refine z_icmp rfl (by first | assumption | (unfold R3; omega)) (by first | assumption | (unfold R3; omega)) (fun c => ?_) (fun c => absurd (by simp only [zcd] <;> omega) c)
          exact nxt _ _ (fun _ _ => ⟨fun e => absurd e sq, fun _ => hokr⟩)
        | succ j ihr =>
          intro r l4 hr hokr
          have nxr : ∀ l4, (isCor P m r → r ≠ p → ¬ smF su sv p r → ¬ bwF su sv p q r ∧ ∀ s, s < r → isCor P m s → s ≠ p → ¬ smF su sv p s → ¬ trF su sv p q r s) → xT xmX6_stands (3, 0, 0, 0, 0) 140 [some (.ref 64), some (zI p), some (zI q), some (zI r), l4] [] n (mdH h m P bu tb fl co fa fb fs fr nn lv a fat w cm cX cY cZ cD su sv tu im rk ba go) (fun r n' h' => r = some v ∧ n' = n ∧ h' = (mdH h m P bu tb fl co fa fb fs fr nn lv a fat w cm cX cY cZ cD su sv tu im rk ba go)) := by
            intro l4 hk
            refine z_iinc rfl rfl rfl ?_
            refine tt_goto rfl ?_
            refine ihr (r + 1) _ (by omega) (fun r' hr' => ?_)
            by_cases e : r' = r
            · subst e; exact hk
            · exact hokr r' (by omega)
          refine tt_op rfl rfl ?_
          refine tt_op rfl rfl ?_
          refine z_icmp rfl (by first | assumption | (unfold R3; omega)) (by first | assumption | (unfold R3; omega)) (fun c => absurd c (by simp only [zcd] <;> omega)) (fun c => ?_)
          refine tt_op rfl rfl ?_
          refine tt_op rfl rfl ?_
          by_cases cr : isCor P m r
          rotate_left
          · refine tt_pV rfl rfl rfl md64 rfl (m_isC hS (show r < 14 by omega) (zI 0) (fun e => absurd e cr) (fun _ => rfl)) ?_
            refine z_if rfl (by first | assumption | (unfold R3; omega)) (fun c => ?_) (fun c => absurd (by simp only [zcd] <;> omega) c)
            exact nxr _ (fun e => absurd e cr)
          refine tt_pV rfl rfl rfl md64 rfl (m_isC hS (show r < 14 by omega) (zI 1) (fun _ => rfl) (fun e => absurd cr e)) ?_
          refine z_if rfl (by first | assumption | (unfold R3; omega)) (fun c => absurd c (by simp only [zcd] <;> omega)) (fun c => ?_)
          refine tt_op rfl rfl ?_
          refine tt_op rfl rfl ?_
          by_cases erp : r = p
          · subst erp
            refine z_icmp rfl (by first | assumption | (unfold R3; omega)) (by first | assumption | (unfold R3; omega)) (fun c => ?_) (fun c => absurd (by simp only [zcd] <;> omega) c)
            exact nxr _ (fun _ e => absurd rfl e)
          refine z_icmp rfl (by first | assumption | (unfold R3; omega)) (by first | assumption | (unfold R3; omega)) (fun c => absurd c (by simp only [zcd] <;> omega)) (fun c => ?_)
          refine tt_op rfl rfl ?_
          refine tt_op rfl rfl ?_
          refine tt_op rfl rfl ?_
          by_cases sr : smF su sv p r
          · refine tt_pV rfl rfl rfl md64 rfl (m_isSame hb hm hp (show r < m by omega) (zI 1) (fun _ => rfl) (fun e => absurd sr e)) ?_
            refine z_if rfl (by first | assumption | (unfold R3; omega)) (fun c => absurd c (by simp only [zcd] <;> omega)) (fun c => ?_)
            refine tt_goto rfl ?_
            exact nxr _ (fun _ _ e => absurd sr e)
          refine tt_pV rfl rfl rfl md64 rfl (m_isSame hb hm hp (show r < m by omega) (zI 0) (fun e => absurd e sr) (fun _ => rfl)) ?_
          refine z_if rfl (by first | assumption | (unfold R3; omega)) (fun c => ?_) (fun c => absurd (by simp only [zcd] <;> omega) c)
          refine tt_op rfl rfl ?_
          refine tt_op rfl rfl ?_
          refine tt_op rfl rfl ?_
          refine tt_op rfl rfl ?_
          by_cases bw : bwF su sv p q r
          · refine tt_pV rfl rfl rfl md64 rfl (m_isBetween hb hm hp (show q < m by omega) (show r < m by omega) (zI 1) (fun _ => rfl) (fun e => absurd bw e)) ?_
            refine z_if rfl (by first | assumption | (unfold R3; omega)) (fun c => absurd c (by simp only [zcd] <;> omega)) (fun c => ?_)
            exact no2 (fun e => ((e q (by omega) cq eqp).2 sq r (by omega) cr erp sr).1 bw) _
          refine tt_pV rfl rfl rfl md64 rfl (m_isBetween hb hm hp (show q < m by omega) (show r < m by omega) (zI 0) (fun e => absurd e bw) (fun _ => rfl)) ?_
          refine z_if rfl (by first | assumption | (unfold R3; omega)) (fun c => ?_) (fun c => absurd (by simp only [zcd] <;> omega) c)
          refine tt_op rfl rfl ?_
          refine tt_op rfl rfl ?_
          have sloop : ∀ (j s : Nat), s + j = r → (∀ s', s' < s → isCor P m s' → s' ≠ p → ¬ smF su sv p s' → ¬ trF su sv p q r s') → xT xmX6_stands (3, 0, 0, 0, 0) 89 [some (.ref 64), some (zI p), some (zI q), some (zI r), some (zI s)] [] n (mdH h m P bu tb fl co fa fb fs fr nn lv a fat w cm cX cY cZ cD su sv tu im rk ba go) (fun r n' h' => r = some v ∧ n' = n ∧ h' = (mdH h m P bu tb fl co fa fb fs fr nn lv a fat w cm cX cY cZ cD su sv tu im rk ba go)) := by
            intro j
            induction j with
            | zero =>
              intro s hs' hoks
              have : s = r := by omega
              subst this
              refine tt_op rfl rfl ?_
              refine tt_op rfl rfl ?_
              refine z_icmp rfl (by first | assumption | (unfold R3; omega)) (by first | assumption | (unfold R3; omega)) (fun c => ?_) (fun c => absurd (by simp only [zcd] <;> omega) c)
              exact nxr _ (fun _ _ _ => ⟨bw, hoks⟩)
            | succ j ihs =>
              intro s hs' hoks
              have nxs : (isCor P m s → s ≠ p → ¬ smF su sv p s → ¬ trF su sv p q r s) → xT xmX6_stands (3, 0, 0, 0, 0) 134 [some (.ref 64), some (zI p), some (zI q), some (zI r), some (zI s)] [] n (mdH h m P bu tb fl co fa fb fs fr nn lv a fat w cm cX cY cZ cD su sv tu im rk ba go) (fun r n' h' => r = some v ∧ n' = n ∧ h' = (mdH h m P bu tb fl co fa fb fs fr nn lv a fat w cm cX cY cZ cD su sv tu im rk ba go)) := by
                intro hk
                refine z_iinc rfl rfl rfl ?_
                refine tt_goto rfl ?_
                refine ihs (s + 1) (by omega) (fun s' hs2 => ?_)
                by_cases e : s' = s
                · subst e; exact hk
                · exact hoks s' (by omega)
              refine tt_op rfl rfl ?_
              refine tt_op rfl rfl ?_
              refine z_icmp rfl (by first | assumption | (unfold R3; omega)) (by first | assumption | (unfold R3; omega)) (fun c => absurd c (by simp only [zcd] <;> omega)) (fun c => ?_)
              refine tt_op rfl rfl ?_
              refine tt_op rfl rfl ?_
              by_cases cs : isCor P m s
              rotate_left
              · refine tt_pV rfl rfl rfl md64 rfl (m_isC hS (show s < 14 by omega) (zI 0) (fun e => absurd e cs) (fun _ => rfl)) ?_
                refine z_if rfl (by first | assumption | (unfold R3; omega)) (fun c => ?_) (fun c => absurd (by simp only [zcd] <;> omega) c)
                exact nxs (fun e => absurd e cs)
              refine tt_pV rfl rfl rfl md64 rfl (m_isC hS (show s < 14 by omega) (zI 1) (fun _ => rfl) (fun e => absurd cs e)) ?_
              refine z_if rfl (by first | assumption | (unfold R3; omega)) (fun c => absurd c (by simp only [zcd] <;> omega)) (fun c => ?_)
              refine tt_op rfl rfl ?_
              refine tt_op rfl rfl ?_
              by_cases esp : s = p
              · subst esp
                refine z_icmp rfl (by first | assumption | (unfold R3; omega)) (by first | assumption | (unfold R3; omega)) (fun c => ?_) (fun c => absurd (by simp only [zcd] <;> omega) c)
                exact nxs (fun _ e => absurd rfl e)
              refine z_icmp rfl (by first | assumption | (unfold R3; omega)) (by first | assumption | (unfold R3; omega)) (fun c => absurd c (by simp only [zcd] <;> omega)) (fun c => ?_)
              refine tt_op rfl rfl ?_
              refine tt_op rfl rfl ?_
              refine tt_op rfl rfl ?_
              by_cases ss : smF su sv p s
              · refine tt_pV rfl rfl rfl md64 rfl (m_isSame hb hm hp (show s < m by omega) (zI 1) (fun _ => rfl) (fun e => absurd ss e)) ?_
                refine z_if rfl (by first | assumption | (unfold R3; omega)) (fun c => ?_) (fun c => absurd (by simp only [zcd] <;> omega) c)
                exact nxs (fun _ _ e => absurd ss e)
              refine tt_pV rfl rfl rfl md64 rfl (m_isSame hb hm hp (show s < m by omega) (zI 0) (fun e => absurd e ss) (fun _ => rfl)) ?_
              refine z_if rfl (by first | assumption | (unfold R3; omega)) (fun c => absurd c (by simp only [zcd] <;> omega)) (fun c => ?_)
              refine tt_op rfl rfl ?_
              refine tt_op rfl rfl ?_
              refine tt_op rfl rfl ?_
              refine tt_op rfl rfl ?_
              refine tt_op rfl rfl ?_
              by_cases tr : trF su sv p q r s
              · refine tt_pV rfl rfl rfl md64 rfl (m_isInTri hb hm hp (show q < m by omega) (show r < m by omega) (show s < m by omega) (zI 1) (fun _ => rfl) (fun e => absurd tr e)) ?_
                refine z_if rfl (by first | assumption | (unfold R3; omega)) (fun c => absurd c (by simp only [zcd] <;> omega)) (fun c => ?_)
                exact no3 (fun e => ((e q (by omega) cq eqp).2 sq r (by omega) cr erp sr).2 s (by omega) cs esp ss tr) _
              refine tt_pV rfl rfl rfl md64 rfl (m_isInTri hb hm hp (show q < m by omega) (show r < m by omega) (show s < m by omega) (zI 0) (fun e => absurd e tr) (fun _ => rfl)) ?_
              refine z_if rfl (by first | assumption | (unfold R3; omega)) (fun c => ?_) (fun c => absurd (by simp only [zcd] <;> omega) c)
              exact nxs (fun _ _ _ => tr)
          exact sloop r 0 (by omega) (fun s' hs' => by omega)
      exact rloop q 0 _ (by omega) (fun r' hr' => by omega)
  exact qloop m 0 none none (by omega) (fun q' hq' => by omega)
/-- the numbers of the first k points are written -/
def wrS (F : V3 → Int) (P : Nat → V3) (su : Nat → Int) (k : Nat) : Nat → Int := fun j => if j < k then F (P j) else su j
theorem wrS_s (F : V3 → Int) (P : Nat → V3) (su : Nat → Int) (k : Nat) : zup (wrS F P su k) k (F (P k)) = wrS F P su (k + 1) := by
  funext j
  unfold zup wrS
  by_cases e : j = k
  · subst e; rw [if_pos rfl, if_pos (by omega)]
  · rw [if_neg e]
    by_cases e2 : j < k
    · rw [if_pos e2, if_pos (by omega)]
    · rw [if_neg e2, if_neg (by omega)]
theorem wrS_0 (F : V3 → Int) (P : Nat → V3) (su : Nat → Int) : wrS F P su 0 = su := by
  funext j; unfold wrS; rw [if_neg (by omega)]
set_option maxRecDepth 10000 in
set_option maxHeartbeats 1000000 in
theorem m_shadow (H : mHp hh m P cm cX cY cZ cD) (x y z : Int) (hx : R3 x) (hy : R3 y) (hz : R3 z) : xCall xmX6_shadow 100 0 0 [.ref 64, zI x, zI y, zI z] n hh (fun r n' h' => n' = n ∧ (∀ j, j < 64 → h' j = hh j) ∧ mHp h' m P cm cX cY cZ cD ∧ ((¬ 0 < (blF P m).1 ∧ r = some (zI (-3))) ∨ (0 < (blF P m).1 ∧ ¬ isDir x y z ∧ r = some (zI (-2))) ∨ (0 < (blF P m).1 ∧ isDir x y z ∧ r = some (zI (shL P (x, y, z) (hCB P m)))))) := by
  obtain ⟨fs, hq⟩ := H.at
  refine xCall.of xgX6_shadow rfl ?_
  refine tt_op rfl rfl ?_
  refine tt_callV (M' := xmX6_noSolid) rfl rfl rfl hq rfl (m_noSolid H) ?_
  rintro res n' h' ⟨rfl, h64, ⟨hF, rfl, hM⟩ | ⟨hF, rfl, hM⟩⟩
  · refine z_if rfl (by first | assumption | (unfold R3; omega)) (fun c => absurd c (by simp only [zcd] <;> omega)) (fun c => ?_)
    refine tt_op rfl rfl ?_
    refine tt_ireturn rfl rfl (by rfl) (Nat.le_of_ble_eq_true rfl) (Nat.le_of_ble_eq_true rfl) ?_
    exact ⟨rfl, h64, hM, Or.inl ⟨hF, rfl⟩⟩
  have hM' := hM.hp
  obtain ⟨h, tb, fl, co, fa, fb, fs, fr, nn, lv, a, fat, w, su, sv, tu, im, rk, ba, go, rfl, hI, hS⟩ := hM
  obtain ⟨_, ⟨hm, hb, hD⟩, hs, hA, _, hbd, hmt, hrn⟩ := SF_u hS
  have hb' : ∀ j, j < m → vbd 20 (P j) := fun j hj => hb j (by omega)
  refine z_if rfl (by first | assumption | (unfold R3; omega)) (fun c => ?_) (fun c => absurd (by simp only [zcd] <;> omega) c)
  refine tt_op rfl rfl ?_
  refine tt_op rfl rfl ?_
  refine tt_op rfl rfl ?_
  by_cases hdir : isDir x y z
  rotate_left
  · refine tt_pS rfl rfl rfl rfl (m_isDir x y z hx hy hz (zI 0) (fun e => absurd e hdir) (fun _ => rfl) _ _) ?_
    refine z_if rfl (by first | assumption | (unfold R3; omega)) (fun c => absurd c (by simp only [zcd] <;> omega)) (fun c => ?_)
    refine tt_op rfl rfl ?_
    refine tt_ireturn rfl rfl (by rfl) (Nat.le_of_ble_eq_true rfl) (Nat.le_of_ble_eq_true rfl) ?_
    exact ⟨rfl, h64, hM', Or.inr (Or.inl ⟨hF, hdir, rfl⟩)⟩
  refine tt_pS rfl rfl rfl rfl (m_isDir x y z hx hy hz (zI 1) (fun _ => rfl) (fun e => absurd hdir e) _ _) ?_
  refine z_if rfl (by first | assumption | (unfold R3; omega)) (fun c => ?_) (fun c => absurd (by simp only [zcd] <;> omega) c)
  refine tt_op rfl rfl ?_
  refine tt_op rfl rfl ?_
  obtain ⟨hne, zx, zy, zz⟩ := id hdir
  have d0 : ((x, y, z) : V3) ≠ vO := by
    intro e
    rw [vO_iff] at e
    simp only at e
    rcases hne with e' | e' | e' <;> omega
  have mx : ∀ (u t : Int), zwi u 20 → (-20 ≤ t ∧ t ≤ 20) → -400 ≤ u * t ∧ u * t ≤ 400 := fun u t hu ht => mul_bd (A := 20) (B := 20) hu ht
  have fbd : ∀ j, j < 14 → (-800 ≤ suF (x, y, z) (P j) ∧ suF (x, y, z) (P j) ≤ 800) ∧ -800 ≤ svF (x, y, z) (P j) ∧ svF (x, y, z) (P j) ≤ 800 := by
    intro j hj
    obtain ⟨v1, v2, v3⟩ := hb j hj
    have a1 := mx x (P j).2.1 zx v2
    have a2 := mx y (P j).1 zy v1
    have a3 := mx z (P j).1 zz v1
    have a4 := mx x (P j).2.2 zx v3
    have a5 := mx y (P j).2.2 zy v3
    have a6 := mx z (P j).2.1 zz v2
    unfold suF svF
    refine ⟨?_, ?_⟩
    · split
      · show -800 ≤ x * (P j).2.1 - y * (P j).1 ∧ x * (P j).2.1 - y * (P j).1 ≤ 800; omega
      · split
        · show -800 ≤ y * (P j).1 ∧ y * (P j).1 ≤ 800; omega
        · show -800 ≤ z * (P j).1 ∧ z * (P j).1 ≤ 800; omega
    · split
      · show -800 ≤ x * (P j).2.2 - z * (P j).1 ∧ x * (P j).2.2 - z * (P j).1 ≤ 800; omega
      · split
        · show -800 ≤ y * (P j).2.2 - z * (P j).2.1 ∧ y * (P j).2.2 - z * (P j).2.1 ≤ 800; omega
        · show -800 ≤ z * (P j).2.1 ∧ z * (P j).2.1 ≤ 800; omega
  have count : xT xmX6_shadow (100, 0, 0, 0, 0) 172 [some (.ref 64), some (zI x), some (zI y), some (zI z), some (zI m), none] [] n' (mdH h m P (1) tb fl co fa fb fs fr nn lv a fat w cm cX cY cZ cD (wrS (suF (x, y, z)) P su m) (wrS (svF (x, y, z)) P sv m) tu im rk ba go) (fun r n'' h' => n'' = n' ∧ (∀ j, j < 64 → h' j = hh j) ∧ mHp h' m P cm cX cY cZ cD ∧ ((¬ 0 < (blF P m).1 ∧ r = some (zI (-3))) ∨ (0 < (blF P m).1 ∧ ¬ isDir x y z ∧ r = some (zI (-2))) ∨ (0 < (blF P m).1 ∧ isDir x y z ∧ r = some (zI (shL P (x, y, z) (hCB P m)))))) := by
    have hagr : ∀ j, j < m → wrS (suF (x, y, z)) P su m j = suF (x, y, z) (P j) ∧ wrS (svF (x, y, z)) P sv m j = svF (x, y, z) (P j) := fun j hj => by
      unfold wrS; rw [if_pos hj, if_pos hj]; exact ⟨rfl, rfl⟩
    have hsb : sBd2 (wrS (suF (x, y, z)) P su m) (wrS (svF (x, y, z)) P sv m) m := fun j hj => by
      rw [(hagr j hj).1, (hagr j hj).2]; exact fbd j (by omega)
    generalize hsu : wrS (suF (x, y, z)) P su m = su' at *
    generalize hsv : wrS (svF (x, y, z)) P sv m = sv' at *
    have eqv : ∀ p, p < m → (stF su' sv' (isCor P m) m p ↔ stF (fun k => suF (x, y, z) (P k)) (fun k => svF (x, y, z) (P k)) (isCor P m) m p) := fun p hp => ⟨stF_cg hp hagr, stF_cg hp (fun j hj => ⟨((hagr j hj).1).symm, ((hagr j hj).2).symm⟩)⟩
    have tot : shL P (x, y, z) (hCB P m) = ct (fun p => isCor P m p ∧ stF su' sv' (isCor P m) m p) m := by
      have e := shN_spec hm hD hs (hCB_spec hm hb' hD hs) d0 (fun _ => 0)
      have e2 : shL P (x, y, z) (hCB P m) = (trN P (x, y, z) (hCB P m) (rmF P (x, y, z) (hCB P m)) 14 0 (rmF P (x, y, z) (hCB P m)) (fun _ => 0) 0).2.2 := by
        unfold shL
        have := trN_eq P (x, y, z) (hCB P m) (rmF P (x, y, z) (hCB P m)) 14 0 (rmF P (x, y, z) (hCB P m)) (fun _ => 0) 0
        have e3 : (fun j : Nat => (((fun _ => 0 : Nat → Nat) j : Nat) : Int)) = (fun _ => 0) := by funext j; rfl
        rw [e3] at this
        rw [this]
      rw [e2, e]
      refine ct_congr (fun p hp => ?_)
      constructor
      · rintro ⟨e1, e2⟩; exact ⟨e1, (eqv p hp).2 e2⟩
      · rintro ⟨e1, e2⟩; exact ⟨e1, (eqv p hp).1 e2⟩
    refine tt_op rfl rfl ?_
    refine tt_op rfl rfl ?_
    refine tt_op rfl rfl ?_
    refine tt_op rfl rfl ?_
    have loop : ∀ (j p : Nat), p + j = m → xT xmX6_shadow (100, 0, 0, 0, 0) 178 [some (.ref 64), some (zI x), some (zI y), some (zI z), some (zI (ct (fun p => isCor P m p ∧ stF su' sv' (isCor P m) m p) p : Nat)), some (zI p)] [] n' (mdH h m P (1) tb fl co fa fb fs fr nn lv a fat w cm cX cY cZ cD (su') (sv') tu im rk ba go) (fun r n'' h' => n'' = n' ∧ (∀ j, j < 64 → h' j = hh j) ∧ mHp h' m P cm cX cY cZ cD ∧ ((¬ 0 < (blF P m).1 ∧ r = some (zI (-3))) ∨ (0 < (blF P m).1 ∧ ¬ isDir x y z ∧ r = some (zI (-2))) ∨ (0 < (blF P m).1 ∧ isDir x y z ∧ r = some (zI (shL P (x, y, z) (hCB P m)))))) := by
      intro j
      induction j with
      | zero =>
        intro p hp
        have : p = m := by omega
        subst this
        refine tt_op rfl rfl ?_
        refine tt_op rfl rfl ?_
        refine tt_get rfl md64 (by rfl) ?_
        refine z_icmp rfl (by first | assumption | (unfold R3; omega)) (by first | assumption | (unfold R3; omega)) (fun c => ?_) (fun c => absurd (by simp only [zcd] <;> omega) c)
        refine tt_op rfl rfl ?_
        refine tt_ireturn rfl rfl (by rfl) (Nat.le_of_ble_eq_true rfl) (Nat.le_of_ble_eq_true rfl) ?_
        refine ⟨rfl, fun j hj => by rw [← h64 j hj, md_lo hj, md_lo hj], ⟨h, 1, tb, fl, co, fa, fb, fs, fr, nn, lv, a, fat, w, su', sv', tu, im, rk, ba, go, rfl, hI⟩, Or.inr (Or.inr ⟨hF, hdir, ?_⟩)⟩
        rw [tot]
      | succ j ih =>
        intro p hp
        have yes : isCor P m p ∧ stF su' sv' (isCor P m) m p → xT xmX6_shadow (100, 0, 0, 0, 0) 212 [some (.ref 64), some (zI x), some (zI y), some (zI z), some (zI (ct (fun p => isCor P m p ∧ stF su' sv' (isCor P m) m p) p : Nat)), some (zI p)] [zI 1, zI (ct (fun p => isCor P m p ∧ stF su' sv' (isCor P m) m p) p : Nat)] n' (mdH h m P (1) tb fl co fa fb fs fr nn lv a fat w cm cX cY cZ cD (su') (sv') tu im rk ba go) (fun r n'' h' => n'' = n' ∧ (∀ j, j < 64 → h' j = hh j) ∧ mHp h' m P cm cX cY cZ cD ∧ ((¬ 0 < (blF P m).1 ∧ r = some (zI (-3))) ∨ (0 < (blF P m).1 ∧ ¬ isDir x y z ∧ r = some (zI (-2))) ∨ (0 < (blF P m).1 ∧ isDir x y z ∧ r = some (zI (shL P (x, y, z) (hCB P m)))))) := by
          intro e
          have t := ih (p + 1) (by omega)
          rw [ct_t (p := fun p => isCor P m p ∧ stF su' sv' (isCor P m) m p) e] at t
          refine z_iadd rfl ?_
          refine tt_op rfl rfl ?_
          refine z_iinc rfl rfl rfl ?_
          refine tt_goto rfl ?_
          exact t
        have not : ¬ (isCor P m p ∧ stF su' sv' (isCor P m) m p) → xT xmX6_shadow (100, 0, 0, 0, 0) 211 [some (.ref 64), some (zI x), some (zI y), some (zI z), some (zI (ct (fun p => isCor P m p ∧ stF su' sv' (isCor P m) m p) p : Nat)), some (zI p)] [zI (ct (fun p => isCor P m p ∧ stF su' sv' (isCor P m) m p) p : Nat)] n' (mdH h m P (1) tb fl co fa fb fs fr nn lv a fat w cm cX cY cZ cD (su') (sv') tu im rk ba go) (fun r n'' h' => n'' = n' ∧ (∀ j, j < 64 → h' j = hh j) ∧ mHp h' m P cm cX cY cZ cD ∧ ((¬ 0 < (blF P m).1 ∧ r = some (zI (-3))) ∨ (0 < (blF P m).1 ∧ ¬ isDir x y z ∧ r = some (zI (-2))) ∨ (0 < (blF P m).1 ∧ isDir x y z ∧ r = some (zI (shL P (x, y, z) (hCB P m)))))) := by
          intro e
          have t := ih (p + 1) (by omega)
          rw [ct_f (p := fun p => isCor P m p ∧ stF su' sv' (isCor P m) m p) e] at t
          generalize ct (fun p => isCor P m p ∧ stF su' sv' (isCor P m) m p) p = M at t ⊢
          refine tt_op rfl rfl ?_
          refine z_iadd rfl ?_
          refine tt_op rfl rfl ?_
          refine z_iinc rfl rfl rfl ?_
          refine tt_goto rfl ?_
          rw [Int.add_zero]
          exact t
        refine tt_op rfl rfl ?_
        refine tt_op rfl rfl ?_
        refine tt_get rfl md64 (by rfl) ?_
        refine z_icmp rfl (by first | assumption | (unfold R3; omega)) (by first | assumption | (unfold R3; omega)) (fun c => absurd c (by simp only [zcd] <;> omega)) (fun c => ?_)
        refine tt_op rfl rfl ?_
        refine tt_op rfl rfl ?_
        refine tt_op rfl rfl ?_
        by_cases cp : isCor P m p
        rotate_left
        · refine tt_pV rfl rfl rfl md64 rfl (m_isC hS (show p < 14 by omega) (zI 0) (fun e => absurd e cp) (fun _ => rfl)) ?_
          refine z_if rfl (by first | assumption | (unfold R3; omega)) (fun c => ?_) (fun c => absurd (by simp only [zcd] <;> omega) c)
          exact not (fun e => cp e.1)
        refine tt_pV rfl rfl rfl md64 rfl (m_isC hS (show p < 14 by omega) (zI 1) (fun _ => rfl) (fun e => absurd cp e)) ?_
        refine z_if rfl (by first | assumption | (unfold R3; omega)) (fun c => absurd c (by simp only [zcd] <;> omega)) (fun c => ?_)
        refine tt_op rfl rfl ?_
        refine tt_op rfl rfl ?_
        by_cases st : stF su' sv' (isCor P m) m p
        · refine tt_pV rfl rfl rfl md64 rfl (m_stands hS hsb (show p < m by omega) (zI 1) (fun _ => rfl) (fun e => absurd st e)) ?_
          refine z_if rfl (by first | assumption | (unfold R3; omega)) (fun c => absurd c (by simp only [zcd] <;> omega)) (fun c => ?_)
          refine tt_op rfl rfl ?_
          refine tt_goto rfl ?_
          exact yes ⟨cp, st⟩
        · refine tt_pV rfl rfl rfl md64 rfl (m_stands hS hsb (show p < m by omega) (zI 0) (fun e => absurd e st) (fun _ => rfl)) ?_
          refine z_if rfl (by first | assumption | (unfold R3; omega)) (fun c => ?_) (fun c => absurd (by simp only [zcd] <;> omega) c)
          exact not (fun e => st e.2)
    exact loop m 0 (by omega)
  have fill : ∀ (j k : Nat), k + j = m → xT xmX6_shadow (100, 0, 0, 0, 0) 25 [some (.ref 64), some (zI x), some (zI y), some (zI z), some (zI k), none] [] n' (mdH h m P (1) tb fl co fa fb fs fr nn lv a fat w cm cX cY cZ cD (wrS (suF (x, y, z)) P su k) (wrS (svF (x, y, z)) P sv k) tu im rk ba go) (fun r n'' h' => n'' = n' ∧ (∀ j, j < 64 → h' j = hh j) ∧ mHp h' m P cm cX cY cZ cD ∧ ((¬ 0 < (blF P m).1 ∧ r = some (zI (-3))) ∨ (0 < (blF P m).1 ∧ ¬ isDir x y z ∧ r = some (zI (-2))) ∨ (0 < (blF P m).1 ∧ isDir x y z ∧ r = some (zI (shL P (x, y, z) (hCB P m)))))) := by
    intro j
    induction j with
    | zero =>
      intro k hk
      have : k = m := by omega
      subst this
      refine tt_op rfl rfl ?_
      refine tt_op rfl rfl ?_
      refine tt_get rfl md64 (by rfl) ?_
      refine z_icmp rfl (by first | assumption | (unfold R3; omega)) (by first | assumption | (unfold R3; omega)) (fun c => ?_) (fun c => absurd (by simp only [zcd] <;> omega) c)
      exact count
    | succ j ih =>
      intro k hk
      obtain ⟨v1, v2, v3⟩ := hb k (by omega)
      have a1 := mx x (P k).2.1 zx v2
      have a2 := mx y (P k).1 zy v1
      have a3 := mx z (P k).1 zz v1
      have a4 := mx x (P k).2.2 zx v3
      have a5 := mx y (P k).2.2 zy v3
      have a6 := mx z (P k).2.1 zz v2
      have t := ih (k + 1) (by omega)
      rw [← wrS_s, ← wrS_s] at t
      have last : xT xmX6_shadow (100, 0, 0, 0, 0) 166 [some (.ref 64), some (zI x), some (zI y), some (zI z), some (zI k), none] [] n' (mdH h m P (1) tb fl co fa fb fs fr nn lv a fat w cm cX cY cZ cD (zup (wrS (suF (x, y, z)) P su k) k (suF (x, y, z) (P k))) (zup (wrS (svF (x, y, z)) P sv k) k (svF (x, y, z) (P k))) tu im rk ba go) (fun r n'' h' => n'' = n' ∧ (∀ j, j < 64 → h' j = hh j) ∧ mHp h' m P cm cX cY cZ cD ∧ ((¬ 0 < (blF P m).1 ∧ r = some (zI (-3))) ∨ (0 < (blF P m).1 ∧ ¬ isDir x y z ∧ r = some (zI (-2))) ∨ (0 < (blF P m).1 ∧ isDir x y z ∧ r = some (zI (shL P (x, y, z) (hCB P m)))))) := by
        refine z_iinc rfl rfl rfl ?_
        refine tt_goto rfl ?_
        exact t
      have su1 : ∀ u, u = suF (x, y, z) (P k) → xT xmX6_shadow (100, 0, 0, 0, 0) 94 [some (.ref 64), some (zI x), some (zI y), some (zI z), some (zI k), none] [zJ u, zI k, .ref 80] n' (mdH h m P (1) tb fl co fa fb fs fr nn lv a fat w cm cX cY cZ cD (wrS (suF (x, y, z)) P su k) (wrS (svF (x, y, z)) P sv k) tu im rk ba go) (fun r n'' h' => n'' = n' ∧ (∀ j, j < 64 → h' j = hh j) ∧ mHp h' m P cm cX cY cZ cD ∧ ((¬ 0 < (blF P m).1 ∧ r = some (zI (-3))) ∨ (0 < (blF P m).1 ∧ ¬ isDir x y z ∧ r = some (zI (-2))) ∨ (0 < (blF P m).1 ∧ isDir x y z ∧ r = some (zI (shL P (x, y, z) (hCB P m)))))) := by
        intro u hu
        refine md_s80 (j := k) rfl rfl (by omega) ?_
        have sv1 : ∀ u', u' = svF (x, y, z) (P k) → xT xmX6_shadow (100, 0, 0, 0, 0) 165 [some (.ref 64), some (zI x), some (zI y), some (zI z), some (zI k), none] [zJ u', zI k, .ref 81] n' (mdH h m P (1) tb fl co fa fb fs fr nn lv a fat w cm cX cY cZ cD (zup (wrS (suF (x, y, z)) P su k) k u) (wrS (svF (x, y, z)) P sv k) tu im rk ba go) (fun r n'' h' => n'' = n' ∧ (∀ j, j < 64 → h' j = hh j) ∧ mHp h' m P cm cX cY cZ cD ∧ ((¬ 0 < (blF P m).1 ∧ r = some (zI (-3))) ∨ (0 < (blF P m).1 ∧ ¬ isDir x y z ∧ r = some (zI (-2))) ∨ (0 < (blF P m).1 ∧ isDir x y z ∧ r = some (zI (shL P (x, y, z) (hCB P m)))))) := by
          intro u' hu'
          refine md_s81 (j := k) rfl rfl (by omega) ?_
          rw [hu, hu']
          exact last
        refine tt_op rfl rfl ?_
        refine tt_get rfl md64 (by rfl) ?_
        refine tt_op rfl rfl ?_
        refine tt_op rfl rfl ?_
        refine z_if rfl (by first | assumption | (unfold R3; omega)) (fun c1 => ?_) (fun c1 => ?_)
        · simp only [zcd] at c1
          refine tt_op rfl rfl ?_
          refine z_if rfl (by first | assumption | (unfold R3; omega)) (fun c2 => ?_) (fun c2 => ?_)
          · simp only [zcd] at c2
            refine tt_op rfl rfl ?_
            refine tt_op rfl rfl ?_
            refine tt_get rfl md64 (by rfl) ?_
            refine tt_op rfl rfl ?_
            refine z_iald rfl md66 rfl (by omega) (by decide) ?_
            refine z_imul rfl ?_
            refine z_il rfl (by first | assumption | (unfold R3; omega)) ?_
            exact sv1 _ (by unfold svF; rw [if_neg (fun e => e c1), if_neg (fun e => e c2)])
          · simp only [zcd] at c2
            refine tt_op rfl rfl ?_
            refine tt_op rfl rfl ?_
            refine tt_get rfl md64 (by rfl) ?_
            refine tt_op rfl rfl ?_
            refine z_iald rfl md67 rfl (by omega) (by decide) ?_
            refine z_imul rfl ?_
            refine tt_op rfl rfl ?_
            refine tt_op rfl rfl ?_
            refine tt_get rfl md64 (by rfl) ?_
            refine tt_op rfl rfl ?_
            refine z_iald rfl md66 rfl (by omega) (by decide) ?_
            refine z_imul rfl ?_
            refine z_isub rfl ?_
            refine z_il rfl (by first | assumption | (unfold R3; omega)) ?_
            refine tt_goto rfl ?_
            exact sv1 _ (by unfold svF; rw [if_neg (fun e => e c1), if_pos c2])
        · simp only [zcd] at c1
          refine tt_op rfl rfl ?_
          refine tt_op rfl rfl ?_
          refine tt_get rfl md64 (by rfl) ?_
          refine tt_op rfl rfl ?_
          refine z_iald rfl md67 rfl (by omega) (by decide) ?_
          refine z_imul rfl ?_
          refine tt_op rfl rfl ?_
          refine tt_op rfl rfl ?_
          refine tt_get rfl md64 (by rfl) ?_
          refine tt_op rfl rfl ?_
          refine z_iald rfl md65 rfl (by omega) (by decide) ?_
          refine z_imul rfl ?_
          refine z_isub rfl ?_
          refine z_il rfl (by first | assumption | (unfold R3; omega)) ?_
          refine tt_goto rfl ?_
          exact sv1 _ (by unfold svF; rw [if_pos c1])
      refine tt_op rfl rfl ?_
      refine tt_op rfl rfl ?_
      refine tt_get rfl md64 (by rfl) ?_
      refine z_icmp rfl (by first | assumption | (unfold R3; omega)) (by first | assumption | (unfold R3; omega)) (fun c => absurd c (by simp only [zcd] <;> omega)) (fun c => ?_)
      refine tt_op rfl rfl ?_
      refine tt_get rfl md64 (by rfl) ?_
      refine tt_op rfl rfl ?_
      refine tt_op rfl rfl ?_
      refine z_if rfl (by first | assumption | (unfold R3; omega)) (fun c1 => ?_) (fun c1 => ?_)
      · simp only [zcd] at c1
        refine tt_op rfl rfl ?_
        refine z_if rfl (by first | assumption | (unfold R3; omega)) (fun c2 => ?_) (fun c2 => ?_)
        · simp only [zcd] at c2
          refine tt_op rfl rfl ?_
          refine tt_op rfl rfl ?_
          refine tt_get rfl md64 (by rfl) ?_
          refine tt_op rfl rfl ?_
          refine z_iald rfl md65 rfl (by omega) (by decide) ?_
          refine z_imul rfl ?_
          refine z_il rfl (by first | assumption | (unfold R3; omega)) ?_
          exact su1 _ (by unfold suF; rw [if_neg (fun e => e c1), if_neg (fun e => e c2)])
        · simp only [zcd] at c2
          refine tt_op rfl rfl ?_
          refine tt_op rfl rfl ?_
          refine tt_get rfl md64 (by rfl) ?_
          refine tt_op rfl rfl ?_
          refine z_iald rfl md65 rfl (by omega) (by decide) ?_
          refine z_imul rfl ?_
          refine z_il rfl (by first | assumption | (unfold R3; omega)) ?_
          refine tt_goto rfl ?_
          exact su1 _ (by unfold suF; rw [if_neg (fun e => e c1), if_pos c2])
      · simp only [zcd] at c1
        refine tt_op rfl rfl ?_
        refine tt_op rfl rfl ?_
        refine tt_get rfl md64 (by rfl) ?_
        refine tt_op rfl rfl ?_
        refine z_iald rfl md66 rfl (by omega) (by decide) ?_
        refine z_imul rfl ?_
        refine tt_op rfl rfl ?_
        refine tt_op rfl rfl ?_
        refine tt_get rfl md64 (by rfl) ?_
        refine tt_op rfl rfl ?_
        refine z_iald rfl md65 rfl (by omega) (by decide) ?_
        refine z_imul rfl ?_
        refine z_isub rfl ?_
        refine z_il rfl (by first | assumption | (unfold R3; omega)) ?_
        refine tt_goto rfl ?_
        exact su1 _ (by unfold suF; rw [if_pos c1])
  have t := fill m 0 (by omega)
  rw [wrS_0, wrS_0] at t
  exact t
end MA
