/-! The reference: cuts -/
/-- both hold the same cut corners -/
def agr (s : Nat × (Nat → Int)) (cX cY cZ cD : Nat → Int) : Prop := ∀ i, i < s.1 → s.2 (4 * i) = cX i ∧ s.2 (4 * i + 1) = cY i ∧ s.2 (4 * i + 2) = cZ i ∧ s.2 (4 * i + 3) = cD i
def ltF (X Y Z D : Nat → Int) (i j : Nat) : Prop := X i * D j - X j * D i < 0 ∨ (X i * D j - X j * D i = 0 ∧ (Y i * D j - Y j * D i < 0 ∨ (Y i * D j - Y j * D i = 0 ∧ Z i * D j - Z j * D i < 0)))
theorem put4_at (N : Nat → Int) (k i : Nat) (v : V4) : (i = k → put4 N k v (4 * i) = v.1.1 ∧ put4 N k v (4 * i + 1) = v.1.2.1 ∧ put4 N k v (4 * i + 2) = v.1.2.2 ∧ put4 N k v (4 * i + 3) = v.2) ∧ (i ≠ k → ∀ c, c < 4 → put4 N k v (4 * i + c) = N (4 * i + c)) := by
  constructor
  · rintro rfl
    simp [put4, zup]
  · intro h c hc
    unfold put4 zup
    rw [if_neg (by omega), if_neg (by omega), if_neg (by omega), if_neg (by omega)]
theorem cpy4_at (N : Nat → Int) (k i c : Nat) (hc : c < 4) : va_cpy N N (4 * k) (4 * (k + 1)) 4 (4 * i + c) = if i = k + 1 then N (4 * k + c) else N (4 * i + c) := by
  unfold va_cpy
  by_cases e : i = k + 1
  · rw [if_pos e, if_pos (by omega), show 4 * k + (4 * i + c - 4 * (k + 1)) = 4 * k + c by omega]
  · rw [if_neg e, if_neg (by omega)]
theorem ct_mono (p : Nat → Prop) : ∀ {a b : Nat}, a ≤ b → ct p a ≤ ct p b := by
  intro a b
  induction b with
  | zero => intro h; rw [show a = 0 by omega]; exact Nat.le_refl _
  | succ b ih =>
    intro h
    by_cases e : a = b + 1
    · rw [e]; exact Nat.le_refl _
    · refine Nat.le_trans (ih (by omega)) ?_
      by_cases e2 : p b
      · rw [ct_t e2]; omega
      · rw [ct_f e2]; exact Nat.le_refl _
theorem sm_mono (f : Nat → Nat) : ∀ {a b : Nat}, a ≤ b → sm f a ≤ sm f b := by
  intro a b
  induction b with
  | zero => intro h; rw [show a = 0 by omega]; exact Nat.le_refl _
  | succ b ih =>
    intro h
    by_cases e : a = b + 1
    · rw [e]; exact Nat.le_refl _
    · refine Nat.le_trans (ih (by omega)) ?_
      simp only [sm]; omega
/-- an edge that the plane crosses -/
def xEd (P : Nat → V3) (m : Nat) (c : V3) (z : Int) (p q : Nat) : Prop := isEd P m p q ∧ ((dot c (P p) < z ∧ z < dot c (P q)) ∨ (z < dot c (P p) ∧ dot c (P q) < z))
theorem nC_sum (P : Nat → V3) (m : Nat) (c : V3) (z : Int) : nC P m c z = ct (fun p => isCor P m p ∧ dot c (P p) = z) 14 + sm (fun p => ct (xEd P m c z p) p) 14 := by
  unfold nC
  congr 1
  exact sm_congr (fun p hp => ct_cut (xEd P m c z p) p 14 (by omega))
theorem room_z {P : Nat → V3} {m : Nat} {c : V3} {z : Int} (h : nC P m c z ≤ 24) {p : Nat} (hp : p < 14) (hz : isCor P m p ∧ dot c (P p) = z) : ct (fun p => isCor P m p ∧ dot c (P p) = z) p + sm (fun p => ct (xEd P m c z p) p) p < 24 := by
  rw [nC_sum] at h
  have a := ct_mono (fun p => isCor P m p ∧ dot c (P p) = z) (show p + 1 ≤ 14 by omega)
  rw [ct_t (p := fun p => isCor P m p ∧ dot c (P p) = z) hz] at a
  have b := sm_mono (fun p => ct (xEd P m c z p) p) (show p ≤ 14 by omega)
  omega
theorem room_x {P : Nat → V3} {m : Nat} {c : V3} {z : Int} (h : nC P m c z ≤ 24) {p q : Nat} (hp : p < 14) (hq : q < p) (hx : xEd P m c z p q) : ct (fun p => isCor P m p ∧ dot c (P p) = z) (p + 1) + sm (fun p => ct (xEd P m c z p) p) p + ct (xEd P m c z p) q < 24 := by
  rw [nC_sum] at h
  have a := ct_mono (fun p => isCor P m p ∧ dot c (P p) = z) (show p + 1 ≤ 14 by omega)
  have b := sm_mono (fun p => ct (xEd P m c z p) p) (show p + 1 ≤ 14 by omega)
  have d := ct_mono (xEd P m c z p) (show q + 1 ≤ p by omega)
  rw [ct_t hx] at d
  have e : sm (fun p => ct (xEd P m c z p) p) (p + 1) = sm (fun p => ct (xEd P m c z p) p) p + ct (xEd P m c z p) p := rfl
  rw [e] at b
  omega
section MB1
variable {h : xHp} {m : Nat} {P : Nat → V3} {bu tb fl co fa : Nat} {fb fs fr : Nat → Nat} {nn : Nat → V3} {lv : Nat → Int} {a : V3} {fat : Nat → Nat} {w : Int × V3} {cm : Int} {cX cY cZ cD su sv : Nat → Int} {tu : Nat} {im : Nat → Int} {rk ba : Nat → Nat} {go : Nat → Int}
variable {n : Nat} {hh : xHp}
set_option maxRecDepth 10000 in
set_option maxHeartbeats 1000000 in
theorem m_compare {i j : Nat} (hi : i < 64) (hj : j < 64) (hbi : (-1000000 ≤ cX i ∧ cX i ≤ 1000000) ∧ (-1000000 ≤ cY i ∧ cY i ≤ 1000000) ∧ (-1000000 ≤ cZ i ∧ cZ i ≤ 1000000) ∧ -1000000 ≤ cD i ∧ cD i ≤ 1000000) (hbj : (-1000000 ≤ cX j ∧ cX j ≤ 1000000) ∧ (-1000000 ≤ cY j ∧ cY j ≤ 1000000) ∧ (-1000000 ≤ cZ j ∧ cZ j ≤ 1000000) ∧ -1000000 ≤ cD j ∧ cD j ≤ 1000000) : ∃ r : Int, (-1 ≤ r ∧ r ≤ 1) ∧ (r < 0 ↔ ltF cX cY cZ cD i j) ∧ xPure xmX6_compare 1 [.ref 64, zI i, zI j] n (mdH h m P bu tb fl co fa fb fs fr nn lv a fat w cm cX cY cZ cD su sv tu im rk ba go) (zI r) := by
  obtain ⟨x1, y1, z1, d1⟩ := hbi
  obtain ⟨x2, y2, z2, d2⟩ := hbj
  have p1 := mul_bd (A := 1000000) (B := 1000000) x1 d2
  have p2 := mul_bd (A := 1000000) (B := 1000000) x2 d1
  have p3 := mul_bd (A := 1000000) (B := 1000000) y1 d2
  have p4 := mul_bd (A := 1000000) (B := 1000000) y2 d1
  have p5 := mul_bd (A := 1000000) (B := 1000000) z1 d2
  have p6 := mul_bd (A := 1000000) (B := 1000000) z2 d1
  have rX : R6 (cX i * cD j - cX j * cD i) := ⟨by omega, by omega⟩
  have rY : R6 (cY i * cD j - cY j * cD i) := ⟨by omega, by omega⟩
  have rZ : R6 (cZ i * cD j - cZ j * cD i) := ⟨by omega, by omega⟩
  have main : ∀ (d : Int), R6 d → (d < 0 ↔ ltF cX cY cZ cD i j) → (∀ Q, (∀ l3, xT xmX6_compare (1, 0, 0, 0, 0) 104 [some (.ref 64), some (zI i), some (zI j), some (zJ d), l3] [] n (mdH h m P bu tb fl co fa fb fs fr nn lv a fat w cm cX cY cZ cD su sv tu im rk ba go) Q) → xT xmX6_compare (1, 0, 0, 0, 0) 0 [some (.ref 64), some (zI i), some (zI j), none, none] [] n (mdH h m P bu tb fl co fa fb fs fr nn lv a fat w cm cX cY cZ cD su sv tu im rk ba go) Q) → ∃ r : Int, (-1 ≤ r ∧ r ≤ 1) ∧ (r < 0 ↔ ltF cX cY cZ cD i j) ∧ xPure xmX6_compare 1 [.ref 64, zI i, zI j] n (mdH h m P bu tb fl co fa fb fs fr nn lv a fat w cm cX cY cZ cD su sv tu im rk ba go) (zI r) := by
    intro d hd hl go'
    refine ⟨if d < 0 then -1 else if 0 < d then 1 else 0, by split <;> (try split) <;> omega, by rw [← hl]; split <;> (try split) <;> omega, ?_⟩
    refine xCall.of xgX6_compare rfl ?_
    refine go' _ (fun l3 => ?_)
    refine tt_op rfl rfl ?_
    refine tt_op rfl rfl ?_
    refine z_lif rfl rfl hd ⟨by decide, by decide⟩ (fun c1 => ?_) (fun c1 => ?_)
    · simp only [zcd] at c1
      rw [if_neg (by omega)]
      refine tt_op rfl rfl ?_
      refine tt_op rfl rfl ?_
      refine z_lif rfl rfl hd ⟨by decide, by decide⟩ (fun c2 => ?_) (fun c2 => ?_)
      · simp only [zcd] at c2
        rw [if_neg (by omega)]
        refine tt_op rfl rfl ?_
        refine tt_ireturn rfl rfl (by rfl) (Nat.le_of_ble_eq_true rfl) (Nat.le_of_ble_eq_true rfl) ?_
        exact ⟨rfl, rfl, rfl⟩
      · simp only [zcd] at c2
        rw [if_pos (by omega)]
        refine tt_op rfl rfl ?_
        refine tt_goto rfl ?_
        refine tt_ireturn rfl rfl (by rfl) (Nat.le_of_ble_eq_true rfl) (Nat.le_of_ble_eq_true rfl) ?_
        exact ⟨rfl, rfl, rfl⟩
    · simp only [zcd] at c1
      rw [if_pos (by omega)]
      refine tt_op rfl rfl ?_
      refine tt_goto rfl ?_
      refine tt_ireturn rfl rfl (by rfl) (Nat.le_of_ble_eq_true rfl) (Nat.le_of_ble_eq_true rfl) ?_
      exact ⟨rfl, rfl, rfl⟩
  by_cases hx : cX i * cD j - cX j * cD i = 0
  · by_cases hy : cY i * cD j - cY j * cD i = 0
    · refine main _ rZ (by unfold ltF; omega) (fun Q hQ => ?_)
      refine tt_op rfl rfl ?_
      refine tt_get rfl md64 (by rfl) ?_
      refine tt_op rfl rfl ?_
      refine z_lald rfl md76 rfl (by omega) (by decide) ?_
      refine tt_op rfl rfl ?_
      refine tt_get rfl md64 (by rfl) ?_
      refine tt_op rfl rfl ?_
      refine z_lald rfl md79 rfl (by omega) (by decide) ?_
      refine z_lmul rfl ?_
      refine tt_op rfl rfl ?_
      refine tt_get rfl md64 (by rfl) ?_
      refine tt_op rfl rfl ?_
      refine z_lald rfl md76 rfl (by omega) (by decide) ?_
      refine tt_op rfl rfl ?_
      refine tt_get rfl md64 (by rfl) ?_
      refine tt_op rfl rfl ?_
      refine z_lald rfl md79 rfl (by omega) (by decide) ?_
      refine z_lmul rfl ?_
      refine z_lsub rfl ?_
      refine tt_op rfl rfl ?_
      refine tt_op rfl rfl ?_
      refine tt_op rfl rfl ?_
      refine z_lif rfl rfl rX ⟨by decide, by decide⟩ (fun c1 => absurd hx c1) (fun c1 => ?_)
      refine tt_op rfl rfl ?_
      refine tt_get rfl md64 (by rfl) ?_
      refine tt_op rfl rfl ?_
      refine z_lald rfl md77 rfl (by omega) (by decide) ?_
      refine tt_op rfl rfl ?_
      refine tt_get rfl md64 (by rfl) ?_
      refine tt_op rfl rfl ?_
      refine z_lald rfl md79 rfl (by omega) (by decide) ?_
      refine z_lmul rfl ?_
      refine tt_op rfl rfl ?_
      refine tt_get rfl md64 (by rfl) ?_
      refine tt_op rfl rfl ?_
      refine z_lald rfl md77 rfl (by omega) (by decide) ?_
      refine tt_op rfl rfl ?_
      refine tt_get rfl md64 (by rfl) ?_
      refine tt_op rfl rfl ?_
      refine z_lald rfl md79 rfl (by omega) (by decide) ?_
      refine z_lmul rfl ?_
      refine z_lsub rfl ?_
      refine tt_goto rfl ?_
      refine tt_op rfl rfl ?_
      refine tt_op rfl rfl ?_
      refine tt_op rfl rfl ?_
      refine z_lif rfl rfl rY ⟨by decide, by decide⟩ (fun c1 => absurd hy c1) (fun c1 => ?_)
      refine tt_op rfl rfl ?_
      refine tt_get rfl md64 (by rfl) ?_
      refine tt_op rfl rfl ?_
      refine z_lald rfl md78 rfl (by omega) (by decide) ?_
      refine tt_op rfl rfl ?_
      refine tt_get rfl md64 (by rfl) ?_
      refine tt_op rfl rfl ?_
      refine z_lald rfl md79 rfl (by omega) (by decide) ?_
      refine z_lmul rfl ?_
      refine tt_op rfl rfl ?_
      refine tt_get rfl md64 (by rfl) ?_
      refine tt_op rfl rfl ?_
      refine z_lald rfl md78 rfl (by omega) (by decide) ?_
      refine tt_op rfl rfl ?_
      refine tt_get rfl md64 (by rfl) ?_
      refine tt_op rfl rfl ?_
      refine z_lald rfl md79 rfl (by omega) (by decide) ?_
      refine z_lmul rfl ?_
      refine z_lsub rfl ?_
      refine tt_goto rfl ?_
      refine tt_op rfl rfl ?_
      exact hQ _
    · refine main _ rY (by unfold ltF; omega) (fun Q hQ => ?_)
      refine tt_op rfl rfl ?_
      refine tt_get rfl md64 (by rfl) ?_
      refine tt_op rfl rfl ?_
      refine z_lald rfl md76 rfl (by omega) (by decide) ?_
      refine tt_op rfl rfl ?_
      refine tt_get rfl md64 (by rfl) ?_
      refine tt_op rfl rfl ?_
      refine z_lald rfl md79 rfl (by omega) (by decide) ?_
      refine z_lmul rfl ?_
      refine tt_op rfl rfl ?_
      refine tt_get rfl md64 (by rfl) ?_
      refine tt_op rfl rfl ?_
      refine z_lald rfl md76 rfl (by omega) (by decide) ?_
      refine tt_op rfl rfl ?_
      refine tt_get rfl md64 (by rfl) ?_
      refine tt_op rfl rfl ?_
      refine z_lald rfl md79 rfl (by omega) (by decide) ?_
      refine z_lmul rfl ?_
      refine z_lsub rfl ?_
      refine tt_op rfl rfl ?_
      refine tt_op rfl rfl ?_
      refine tt_op rfl rfl ?_
      refine z_lif rfl rfl rX ⟨by decide, by decide⟩ (fun c1 => absurd hx c1) (fun c1 => ?_)
      refine tt_op rfl rfl ?_
      refine tt_get rfl md64 (by rfl) ?_
      refine tt_op rfl rfl ?_
      refine z_lald rfl md77 rfl (by omega) (by decide) ?_
      refine tt_op rfl rfl ?_
      refine tt_get rfl md64 (by rfl) ?_
      refine tt_op rfl rfl ?_
      refine z_lald rfl md79 rfl (by omega) (by decide) ?_
      refine z_lmul rfl ?_
      refine tt_op rfl rfl ?_
      refine tt_get rfl md64 (by rfl) ?_
      refine tt_op rfl rfl ?_
      refine z_lald rfl md77 rfl (by omega) (by decide) ?_
      refine tt_op rfl rfl ?_
      refine tt_get rfl md64 (by rfl) ?_
      refine tt_op rfl rfl ?_
      refine z_lald rfl md79 rfl (by omega) (by decide) ?_
      refine z_lmul rfl ?_
      refine z_lsub rfl ?_
      refine tt_goto rfl ?_
      refine tt_op rfl rfl ?_
      refine tt_op rfl rfl ?_
      refine tt_op rfl rfl ?_
      refine z_lif rfl rfl rY ⟨by decide, by decide⟩ (fun c1 => ?_) (fun c1 => absurd hy c1)
      refine tt_op rfl rfl ?_
      refine tt_op rfl rfl ?_
      exact hQ _
  · refine main _ rX (by unfold ltF; omega) (fun Q hQ => ?_)
    refine tt_op rfl rfl ?_
    refine tt_get rfl md64 (by rfl) ?_
    refine tt_op rfl rfl ?_
    refine z_lald rfl md76 rfl (by omega) (by decide) ?_
    refine tt_op rfl rfl ?_
    refine tt_get rfl md64 (by rfl) ?_
    refine tt_op rfl rfl ?_
    refine z_lald rfl md79 rfl (by omega) (by decide) ?_
    refine z_lmul rfl ?_
    refine tt_op rfl rfl ?_
    refine tt_get rfl md64 (by rfl) ?_
    refine tt_op rfl rfl ?_
    refine z_lald rfl md76 rfl (by omega) (by decide) ?_
    refine tt_op rfl rfl ?_
    refine tt_get rfl md64 (by rfl) ?_
    refine tt_op rfl rfl ?_
    refine z_lald rfl md79 rfl (by omega) (by decide) ?_
    refine z_lmul rfl ?_
    refine z_lsub rfl ?_
    refine tt_op rfl rfl ?_
    refine tt_op rfl rfl ?_
    refine tt_op rfl rfl ?_
    refine z_lif rfl rfl rX ⟨by decide, by decide⟩ (fun c1 => ?_) (fun c1 => absurd hx c1)
    refine tt_op rfl rfl ?_
    refine tt_op rfl rfl ?_
    refine tt_op rfl rfl ?_
    refine tt_op rfl rfl ?_
    refine z_lif rfl rfl rX ⟨by decide, by decide⟩ (fun c1 => ?_) (fun c1 => absurd hx c1)
    refine tt_op rfl rfl ?_
    refine tt_op rfl rfl ?_
    exact hQ _
set_option maxRecDepth 10000 in
theorem m_swapX {i j : Nat} (hi : i < 64) (hj : j < 64) : xCall xmX6_swap 1 0 0 [.ref 64, .ref 76, zI i, zI j] n (mdH h m P bu tb fl co fa fb fs fr nn lv a fat w cm cX cY cZ cD su sv tu im rk ba go) (fun res n' h' => res = none ∧ n' = n ∧ h' = (mdH h m P bu tb fl co fa fb fs fr nn lv a fat w cm (zup (zup cX i (cX j)) j (cX i)) cY cZ cD su sv tu im rk ba go)) := by
  refine xCall.of xgX6_swap rfl ?_
  refine tt_op rfl rfl ?_
  refine tt_op rfl rfl ?_
  refine z_lald rfl md76 rfl hi (by decide) ?_
  refine tt_op rfl rfl ?_
  refine tt_op rfl rfl ?_
  refine tt_op rfl rfl ?_
  refine tt_op rfl rfl ?_
  refine tt_op rfl rfl ?_
  refine z_lald rfl md76 rfl hj (by decide) ?_
  refine md_s76 (j := i) rfl rfl hi ?_
  refine tt_op rfl rfl ?_
  refine tt_op rfl rfl ?_
  refine tt_op rfl rfl ?_
  refine md_s76 (j := j) rfl rfl hj ?_
  refine tt_return rfl rfl (Nat.le_of_ble_eq_true rfl) (Nat.le_of_ble_eq_true rfl) ?_
  exact ⟨rfl, rfl, rfl⟩
set_option maxRecDepth 10000 in
theorem m_swapY {i j : Nat} (hi : i < 64) (hj : j < 64) : xCall xmX6_swap 1 0 0 [.ref 64, .ref 77, zI i, zI j] n (mdH h m P bu tb fl co fa fb fs fr nn lv a fat w cm cX cY cZ cD su sv tu im rk ba go) (fun res n' h' => res = none ∧ n' = n ∧ h' = (mdH h m P bu tb fl co fa fb fs fr nn lv a fat w cm cX (zup (zup cY i (cY j)) j (cY i)) cZ cD su sv tu im rk ba go)) := by
  refine xCall.of xgX6_swap rfl ?_
  refine tt_op rfl rfl ?_
  refine tt_op rfl rfl ?_
  refine z_lald rfl md77 rfl hi (by decide) ?_
  refine tt_op rfl rfl ?_
  refine tt_op rfl rfl ?_
  refine tt_op rfl rfl ?_
  refine tt_op rfl rfl ?_
  refine tt_op rfl rfl ?_
  refine z_lald rfl md77 rfl hj (by decide) ?_
  refine md_s77 (j := i) rfl rfl hi ?_
  refine tt_op rfl rfl ?_
  refine tt_op rfl rfl ?_
  refine tt_op rfl rfl ?_
  refine md_s77 (j := j) rfl rfl hj ?_
  refine tt_return rfl rfl (Nat.le_of_ble_eq_true rfl) (Nat.le_of_ble_eq_true rfl) ?_
  exact ⟨rfl, rfl, rfl⟩
set_option maxRecDepth 10000 in
theorem m_swapZ {i j : Nat} (hi : i < 64) (hj : j < 64) : xCall xmX6_swap 1 0 0 [.ref 64, .ref 78, zI i, zI j] n (mdH h m P bu tb fl co fa fb fs fr nn lv a fat w cm cX cY cZ cD su sv tu im rk ba go) (fun res n' h' => res = none ∧ n' = n ∧ h' = (mdH h m P bu tb fl co fa fb fs fr nn lv a fat w cm cX cY (zup (zup cZ i (cZ j)) j (cZ i)) cD su sv tu im rk ba go)) := by
  refine xCall.of xgX6_swap rfl ?_
  refine tt_op rfl rfl ?_
  refine tt_op rfl rfl ?_
  refine z_lald rfl md78 rfl hi (by decide) ?_
  refine tt_op rfl rfl ?_
  refine tt_op rfl rfl ?_
  refine tt_op rfl rfl ?_
  refine tt_op rfl rfl ?_
  refine tt_op rfl rfl ?_
  refine z_lald rfl md78 rfl hj (by decide) ?_
  refine md_s78 (j := i) rfl rfl hi ?_
  refine tt_op rfl rfl ?_
  refine tt_op rfl rfl ?_
  refine tt_op rfl rfl ?_
  refine md_s78 (j := j) rfl rfl hj ?_
  refine tt_return rfl rfl (Nat.le_of_ble_eq_true rfl) (Nat.le_of_ble_eq_true rfl) ?_
  exact ⟨rfl, rfl, rfl⟩
set_option maxRecDepth 10000 in
theorem m_swapD {i j : Nat} (hi : i < 64) (hj : j < 64) : xCall xmX6_swap 1 0 0 [.ref 64, .ref 79, zI i, zI j] n (mdH h m P bu tb fl co fa fb fs fr nn lv a fat w cm cX cY cZ cD su sv tu im rk ba go) (fun res n' h' => res = none ∧ n' = n ∧ h' = (mdH h m P bu tb fl co fa fb fs fr nn lv a fat w cm cX cY cZ (zup (zup cD i (cD j)) j (cD i)) su sv tu im rk ba go)) := by
  refine xCall.of xgX6_swap rfl ?_
  refine tt_op rfl rfl ?_
  refine tt_op rfl rfl ?_
  refine z_lald rfl md79 rfl hi (by decide) ?_
  refine tt_op rfl rfl ?_
  refine tt_op rfl rfl ?_
  refine tt_op rfl rfl ?_
  refine tt_op rfl rfl ?_
  refine tt_op rfl rfl ?_
  refine z_lald rfl md79 rfl hj (by decide) ?_
  refine md_s79 (j := i) rfl rfl hi ?_
  refine tt_op rfl rfl ?_
  refine tt_op rfl rfl ?_
  refine tt_op rfl rfl ?_
  refine md_s79 (j := j) rfl rfl hj ?_
  refine tt_return rfl rfl (Nat.le_of_ble_eq_true rfl) (Nat.le_of_ble_eq_true rfl) ?_
  exact ⟨rfl, rfl, rfl⟩
set_option maxRecDepth 10000 in
set_option maxHeartbeats 1000000 in
theorem m_addCut_loop (v : V4) (hv : v4bd v) (cnt : Nat) (hc : cnt < 24) (x y z dn sg : Int) : ∀ (k : Nat) (N X Y Z D : Nat → Int), k ≤ cnt → sBd N → (X k = v.1.1 ∧ Y k = v.1.2.1 ∧ Z k = v.1.2.2 ∧ D k = v.2) → (∀ j, j < k → N (4 * j) = X j ∧ N (4 * j + 1) = Y j ∧ N (4 * j + 2) = Z j ∧ N (4 * j + 3) = D j) → (∀ j, k < j → j ≤ cnt → N (4 * j) = X j ∧ N (4 * j + 1) = Y j ∧ N (4 * j + 2) = Z j ∧ N (4 * j + 3) = D j) → xT xmX6_addCut (2, 0, 0, 0, 0) 78 [some (.ref 64), some (zJ x), none, some (zJ y), none, some (zJ z), none, some (zJ dn), none, some (zJ sg), none, some (zI k)] [] n (mdH h m P bu tb fl co fa fb fs fr nn lv a fat w cm (X) (Y) (Z) (D) su sv tu im rk ba go) (fun res n' h' => res = none ∧ n' = n ∧ ∃ X' Y' Z' D', h' = (mdH h m P bu tb fl co fa fb fs fr nn lv a fat w cm (X') (Y') (Z') (D') su sv tu im rk ba go) ∧ agr (cnt + 1, put4 (inR v k N).1 (inR v k N).2 v) X' Y' Z' D') := by
  intro k
  have fin : ∀ (k : Nat) (N X Y Z D : Nat → Int), (X k = v.1.1 ∧ Y k = v.1.2.1 ∧ Z k = v.1.2.2 ∧ D k = v.2) → (∀ j, j < k → N (4 * j) = X j ∧ N (4 * j + 1) = Y j ∧ N (4 * j + 2) = Z j ∧ N (4 * j + 3) = D j) → (∀ j, k < j → j ≤ cnt → N (4 * j) = X j ∧ N (4 * j + 1) = Y j ∧ N (4 * j + 2) = Z j ∧ N (4 * j + 3) = D j) → agr (cnt + 1, put4 N k v) X Y Z D := by
    intro k N X Y Z D h1 h2 h3 i hi
    simp only at hi ⊢
    obtain ⟨p1, p2⟩ := put4_at N k i v
    rcases Nat.lt_trichotomy i k with e | e | e
    · have q := p2 (by omega)
      have q0 := q 0 (by omega)
      rw [Nat.add_zero] at q0
      rw [q0, q 1 (by omega), q 2 (by omega), q 3 (by omega)]
      exact h2 i e
    · obtain ⟨a1, a2, a3, a4⟩ := p1 e
      rw [a1, a2, a3, a4, e]
      exact ⟨h1.1.symm, h1.2.1.symm, h1.2.2.1.symm, h1.2.2.2.symm⟩
    · have q := p2 (by omega)
      have q0 := q 0 (by omega)
      rw [Nat.add_zero] at q0
      rw [q0, q 1 (by omega), q 2 (by omega), q 3 (by omega)]
      exact h3 i e (by omega)
  induction k with
  | zero =>
    intro N X Y Z D hk hN h1 h2 h3
    refine tt_op rfl rfl ?_
    refine z_if rfl (by first | assumption | (unfold R3; omega)) (fun c => ?_) (fun c => absurd (by simp only [zcd] <;> omega) c)
    refine tt_return rfl rfl (Nat.le_of_ble_eq_true rfl) (Nat.le_of_ble_eq_true rfl) ?_
    refine ⟨rfl, rfl, X, Y, Z, D, rfl, ?_⟩
    simp only [inR]
    exact fin 0 N X Y Z D h1 h2 h3
  | succ k ih =>
    intro N X Y Z D hk hN h1 h2 h3
    have hb : ∀ c, c < 96 → -1000000 ≤ N c ∧ N c ≤ 1000000 := hN
    obtain ⟨e1, e2, e3, e4⟩ := h2 k (by omega)
    obtain ⟨⟨v1, v2, v3⟩, v4⟩ := hv
    have hv : v4bd v := ⟨⟨v1, v2, v3⟩, v4⟩
    obtain ⟨r, hr, hlt, hcmp⟩ := m_compare (h := h) (m := m) (P := P) (bu := bu) (tb := tb) (fl := fl) (co := co) (fa := fa) (fb := fb) (fs := fs) (fr := fr) (nn := nn) (lv := lv) (a := a) (fat := fat) (w := w) (cm := cm) (cX := X) (cY := Y) (cZ := Z) (cD := D) (su := su) (sv := sv) (tu := tu) (im := im) (rk := rk) (ba := ba) (go := go) (n := n) (i := k + 1) (j := k) (by omega) (by omega) (by rw [h1.1, h1.2.1, h1.2.2.1, h1.2.2.2]; exact ⟨v1, v2, v3, v4⟩) (by rw [← e1, ← e2, ← e3, ← e4]; exact ⟨hb _ (by omega), hb _ (by omega), hb _ (by omega), hb _ (by omega)⟩)
    have hsl : r < 0 ↔ slL N v k := by
      rw [hlt]
      unfold ltF slL
      rw [h1.1, h1.2.1, h1.2.2.1, h1.2.2.2, e1, e2, e3, e4]
    refine tt_op rfl rfl ?_
    refine z_if rfl (by first | assumption | (unfold R3; omega)) (fun c => absurd c (by simp only [zcd] <;> omega)) (fun c => ?_)
    refine tt_op rfl rfl ?_
    refine tt_op rfl rfl ?_
    refine tt_op rfl rfl ?_
    refine tt_op rfl rfl ?_
    refine z_isub rfl ?_
    have ek : ((k + 1 : Nat) : Int) - 1 = (k : Int) := by omega
    rw [ek]
    refine tt_pV rfl rfl rfl md64 rfl hcmp ?_
    by_cases hs : slL N v k
    · have hneg := hsl.2 hs
      refine z_if rfl (by first | assumption | (unfold R3; omega)) (fun c => absurd c (by simp only [zcd] <;> omega)) (fun c => ?_)
      refine tt_op rfl rfl ?_
      refine tt_op rfl rfl ?_
      refine tt_get rfl md64 (by rfl) ?_
      refine tt_op rfl rfl ?_
      refine tt_op rfl rfl ?_
      refine tt_op rfl rfl ?_
      refine z_isub rfl ?_
      rw [ek]
      refine tt_callV (M' := xmX6_swap) rfl rfl rfl md64 rfl (m_swapX (i := k + 1) (j := k) (by omega) (by omega)) ?_
      rintro res n' h' ⟨rfl, rfl, rfl⟩
      refine tt_op rfl rfl ?_
      refine tt_op rfl rfl ?_
      refine tt_get rfl md64 (by rfl) ?_
      refine tt_op rfl rfl ?_
      refine tt_op rfl rfl ?_
      refine tt_op rfl rfl ?_
      refine z_isub rfl ?_
      rw [ek]
      refine tt_callV (M' := xmX6_swap) rfl rfl rfl md64 rfl (m_swapY (i := k + 1) (j := k) (by omega) (by omega)) ?_
      rintro res n' h' ⟨rfl, rfl, rfl⟩
      refine tt_op rfl rfl ?_
      refine tt_op rfl rfl ?_
      refine tt_get rfl md64 (by rfl) ?_
      refine tt_op rfl rfl ?_
      refine tt_op rfl rfl ?_
      refine tt_op rfl rfl ?_
      refine z_isub rfl ?_
      rw [ek]
      refine tt_callV (M' := xmX6_swap) rfl rfl rfl md64 rfl (m_swapZ (i := k + 1) (j := k) (by omega) (by omega)) ?_
      rintro res n' h' ⟨rfl, rfl, rfl⟩
      refine tt_op rfl rfl ?_
      refine tt_op rfl rfl ?_
      refine tt_get rfl md64 (by rfl) ?_
      refine tt_op rfl rfl ?_
      refine tt_op rfl rfl ?_
      refine tt_op rfl rfl ?_
      refine z_isub rfl ?_
      rw [ek]
      refine tt_callV (M' := xmX6_swap) rfl rfl rfl md64 rfl (m_swapD (i := k + 1) (j := k) (by omega) (by omega)) ?_
      rintro res n' h' ⟨rfl, rfl, rfl⟩
      refine z_iinc rfl rfl rfl ?_
      refine tt_goto rfl ?_
      have ei : ((k + 1 : Nat) : Int) + -1 = (k : Int) := by omega
      rw [ei]
      have sw1 : ∀ A : Nat → Int, zup (zup A (k + 1) (A k)) k (A (k + 1)) k = A (k + 1) := fun A => by unfold zup; rw [if_pos rfl]
      have sw2 : ∀ A : Nat → Int, zup (zup A (k + 1) (A k)) k (A (k + 1)) (k + 1) = A k := fun A => by unfold zup; rw [if_neg (by omega), if_pos rfl]
      have sw3 : ∀ (A : Nat → Int) (j : Nat), j ≠ k → j ≠ k + 1 → zup (zup A (k + 1) (A k)) k (A (k + 1)) j = A j := fun A j hj1 hj2 => by unfold zup; rw [if_neg hj1, if_neg hj2]
      have ir : inR v (k + 1) N = inR v k (va_cpy N N (4 * k) (4 * (k + 1)) 4) := by
        simp only [inR]; rw [if_pos hs]
      rw [ir]
      refine ih (va_cpy N N (4 * k) (4 * (k + 1)) 4) _ _ _ _ (by omega) (cpy_bd hN k (by omega)) ⟨by rw [sw1]; exact h1.1, by rw [sw1]; exact h1.2.1, by rw [sw1]; exact h1.2.2.1, by rw [sw1]; exact h1.2.2.2⟩ (fun j hj => ?_) (fun j hj hj2 => ?_)
      · have c0 : va_cpy N N (4 * k) (4 * (k + 1)) 4 (4 * j) = if j = k + 1 then N (4 * k) else N (4 * j) := cpy4_at N k j 0 (by omega)
        rw [c0, cpy4_at N k j 1 (by omega), cpy4_at N k j 2 (by omega), cpy4_at N k j 3 (by omega), if_neg (by omega), if_neg (by omega), if_neg (by omega), if_neg (by omega), sw3 _ j (by omega) (by omega), sw3 _ j (by omega) (by omega), sw3 _ j (by omega) (by omega), sw3 _ j (by omega) (by omega)]
        exact h2 j (by omega)
      · have c0 : va_cpy N N (4 * k) (4 * (k + 1)) 4 (4 * j) = if j = k + 1 then N (4 * k) else N (4 * j) := cpy4_at N k j 0 (by omega)
        rw [c0, cpy4_at N k j 1 (by omega), cpy4_at N k j 2 (by omega), cpy4_at N k j 3 (by omega)]
        by_cases e : j = k + 1
        · rw [if_pos e, if_pos e, if_pos e, if_pos e, e, sw2, sw2, sw2, sw2]
          exact ⟨e1, e2, e3, e4⟩
        · rw [if_neg e, if_neg e, if_neg e, if_neg e, sw3 _ j (by omega) (by omega), sw3 _ j (by omega) (by omega), sw3 _ j (by omega) (by omega), sw3 _ j (by omega) (by omega)]
          exact h3 j (by omega) hj2
    · have hpos : ¬ r < 0 := fun e => hs (hsl.1 e)
      refine z_if rfl (by first | assumption | (unfold R3; omega)) (fun c => ?_) (fun c => absurd (by simp only [zcd] <;> omega) c)
      refine tt_return rfl rfl (Nat.le_of_ble_eq_true rfl) (Nat.le_of_ble_eq_true rfl) ?_
      refine ⟨rfl, rfl, X, Y, Z, D, rfl, ?_⟩
      have ir : inR v (k + 1) N = (N, k + 1) := by
        simp only [inR]; rw [if_neg hs]
      rw [ir]
      exact fin (k + 1) N X Y Z D h1 h2 h3
set_option maxRecDepth 10000 in
set_option maxHeartbeats 1000000 in
theorem m_addCut (s : Nat × (Nat → Int)) (hc : s.1 < 24) (hN : sBd s.2) (hag : agr s cX cY cZ cD) (v : V4) (hv : v4bd v) (x y z dn sg : Int) (hsg : (0 < dn ∧ sg = 1) ∨ (dn < 0 ∧ sg = -1)) (hdn : R6 dn) (e1 : sg * x = v.1.1) (e2 : sg * y = v.1.2.1) (e3 : sg * z = v.1.2.2) (e4 : sg * dn = v.2) : xCall xmX6_addCut 2 0 0 [.ref 64, zJ x, zJ y, zJ z, zJ dn] n (mdH h m P bu tb fl co fa fb fs fr nn lv a fat w ((s.1 : Int)) cX cY cZ cD su sv tu im rk ba go) (fun res n' h' => res = none ∧ n' = n ∧ ∃ X' Y' Z' D', h' = (mdH h m P bu tb fl co fa fb fs fr nn lv a fat w (((s.1 + 1 : Nat) : Int)) (X') (Y') (Z') (D') su sv tu im rk ba go) ∧ agr (isv v s) X' Y' Z' D') := by
  have main : xT xmX6_addCut (2, 0, 0, 0, 0) 14 [some (.ref 64), some (zJ x), none, some (zJ y), none, some (zJ z), none, some (zJ dn), none, none, none, none] [zJ sg] n (mdH h m P bu tb fl co fa fb fs fr nn lv a fat w ((s.1 : Int)) cX cY cZ cD su sv tu im rk ba go) (fun res n' h' => res = none ∧ n' = n ∧ ∃ X' Y' Z' D', h' = (mdH h m P bu tb fl co fa fb fs fr nn lv a fat w (((s.1 + 1 : Nat) : Int)) (X') (Y') (Z') (D') su sv tu im rk ba go) ∧ agr (isv v s) X' Y' Z' D') := by
    refine tt_op rfl rfl ?_
    refine tt_op rfl rfl ?_
    refine tt_get rfl md64 (by rfl) ?_
    refine tt_op rfl rfl ?_
    refine tt_op rfl rfl ?_
    refine tt_get rfl md64 (by rfl) ?_
    refine tt_op rfl rfl ?_
    refine tt_op rfl rfl ?_
    refine tt_op rfl rfl ?_
    refine z_lmul rfl ?_
    rw [e1]
    refine md_s76 (j := s.1) rfl rfl (by omega) ?_
    refine tt_op rfl rfl ?_
    refine tt_get rfl md64 (by rfl) ?_
    refine tt_op rfl rfl ?_
    refine tt_op rfl rfl ?_
    refine tt_op rfl rfl ?_
    refine z_lmul rfl ?_
    rw [e2]
    refine md_s77 (j := s.1) rfl rfl (by omega) ?_
    refine tt_op rfl rfl ?_
    refine tt_get rfl md64 (by rfl) ?_
    refine tt_op rfl rfl ?_
    refine tt_op rfl rfl ?_
    refine tt_op rfl rfl ?_
    refine z_lmul rfl ?_
    rw [e3]
    refine md_s78 (j := s.1) rfl rfl (by omega) ?_
    refine tt_op rfl rfl ?_
    refine tt_get rfl md64 (by rfl) ?_
    refine tt_op rfl rfl ?_
    refine tt_op rfl rfl ?_
    refine tt_op rfl rfl ?_
    refine z_lmul rfl ?_
    rw [e4]
    refine md_s79 (j := s.1) rfl rfl (by omega) ?_
    refine tt_op rfl rfl ?_
    refine tt_op rfl rfl ?_
    refine tt_get rfl md64 (by rfl) ?_
    refine tt_op rfl rfl ?_
    refine z_iadd rfl ?_
    refine md_pcm rfl (by decide) ?_
    have at' : ∀ (A : Nat → Int) (u : Int), zup A s.1 u s.1 = u := fun A u => by unfold zup; rw [if_pos rfl]
    have of' : ∀ (A : Nat → Int) (u : Int) (j : Nat), j < s.1 → zup A s.1 u j = A j := fun A u j hj => by unfold zup; rw [if_neg (by omega)]
    have t := m_addCut_loop (h := h) (m := m) (P := P) (bu := bu) (tb := tb) (fl := fl) (co := co) (fa := fa) (fb := fb) (fs := fs) (fr := fr) (nn := nn) (lv := lv) (a := a) (fat := fat) (w := w) (cm := ((s.1 + 1 : Nat) : Int)) (su := su) (sv := sv) (tu := tu) (im := im) (rk := rk) (ba := ba) (go := go) (n := n) v hv s.1 hc x y z dn sg s.1 s.2 (zup cX s.1 v.1.1) (zup cY s.1 v.1.2.1) (zup cZ s.1 v.1.2.2) (zup cD s.1 v.2) (Nat.le_refl _) hN ⟨at' _ _, at' _ _, at' _ _, at' _ _⟩ (fun j hj => by rw [of' _ _ j hj, of' _ _ j hj, of' _ _ j hj, of' _ _ j hj]; exact hag j hj) (fun j hj hj2 => by omega)
    have ei : isv v s = (s.1 + 1, put4 (inR v s.1 s.2).1 (inR v s.1 s.2).2 v) := by unfold isv; rw [if_pos hc]
    rw [ei]
    exact t
  refine xCall.of xgX6_addCut rfl ?_
  refine tt_op rfl rfl ?_
  refine tt_op rfl rfl ?_
  rcases hsg with ⟨hp, rfl⟩ | ⟨hn, rfl⟩
  · refine z_lif rfl rfl hdn ⟨by decide, by decide⟩ (fun c1 => ?_) (fun c1 => absurd (show zcd .ge dn 0 by simp only [zcd]; omega) c1)
    refine tt_op rfl rfl ?_
    exact main
  · refine z_lif rfl rfl hdn ⟨by decide, by decide⟩ (fun c1 => absurd c1 (by simp only [zcd]; omega)) (fun c1 => ?_)
    refine tt_op rfl rfl ?_
    refine tt_goto rfl ?_
    exact main
end MB1
