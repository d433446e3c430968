/-! The motions: hands, rings, periods -/
section MO2
variable {h : xHp} {m : Nat} {P : Nat → V3} {n : Nat} {F E CB : Nat} {six : Int} {ad : Nat → Nat} {f : Nat → FD}
theorem xHf_mo {s : St} (H : xHf h ad f) : xHf (moH h s) ad f := xHf_up (by omega) (xHf_up (by omega) (xHf_up (by omega) H))
def imF (s : St) (i : Nat) : Nat → Nat := fun p => s.2.1 (14 * i + p)
theorem imF_lt {s : St} (hs : mOk s) {i p : Nat} (hi : i < 48) (hp : p < 14) : imF s i p < 14 := hs.2.1 _ (by omega)
theorem c_image' (s : St) (i co : Nat) (hi : i < 48) (hc : co < 14) : xPure xmX2_image 2 [.ref 59, zI i, zI co] n (moH h s) (zI (imF s i co)) := c_image s i co hi hc
abbrev khB (P : Nat → V3) (CB : Nat) (x : FD) (g : Nat → Nat) : Prop := bxs P (x.2.2.2.2.2 0) (x.2.2.2.2.2 1) (x.2.2.2.2.2 2) (tz (bdf CB x.2.2.1)) = bxs P (g (x.2.2.2.2.2 0)) (g (x.2.2.2.2.2 1)) (g (x.2.2.2.2.2 2)) (g (tz (bdf CB x.2.2.1)))
theorem bxs_bd (hb : pbd P) {p q r s : Nat} (hp : p < 14) (hq : q < 14) (hr : r < 14) (hs : s < 14) : R6 (bxs P p q r s) := swg_bd hb hp hq hr (vbd_le (vbd_sub (hb s hs) (hb p hp)) (by omega))
set_option maxRecDepth 10000 in
set_option maxHeartbeats 1000000 in
theorem c_keepsHands (HC : xCl h m P) (h5 : h 5 = some (huC F E CB six)) (H : xHf h ad f) (s : St) (hs : mOk s) (i : Nat) (hi : i < 48) (hw : bdf CB (f 0).2.2.1 < 16384) (h0 : 0 < bdf CB (f 0).2.2.1) : xPure xmX2_keepsHands 4 [.ref 59, zI i] n (moH h s) (zI (if khB P CB (f 0) (imF s i) then 1 else 0)) := by
  have hb := HC.2.2.2.2.2
  have K := xCl_mo (s := s) HC
  have k1 := K.1
  have h59 := moH_59 (h := h) (s := s)
  have g5 : moH h s 5 = some (huC F E CB six) := by rw [moH_n (by omega) (by omega) (by omega)]; exact h5
  have H' := xHf_mo (s := s) H
  obtain ⟨⟨rd, g6, grd⟩, gA, gI, gC, gV⟩ := H'
  have c1 := (gC 0 (by omega)).1
  have c2 := (gC 0 (by omega)).2
  have v6 := (gV 0 (by omega)).2.2.2.2.2
  have ht := tz_lt hw h0
  refine xCall.of xgX2_keepsHands rfl ?_
  refine tt_op rfl rfl ?_
  refine tt_get rfl (by assumption) (by rfl) ?_
  refine tt_get rfl (by assumption) (by rfl) ?_
  refine tt_op rfl rfl ?_
  refine z_aald (j := 0) rfl g6 rfl (by omega) (by decide) (grd 0 (by omega)) ?_
  refine tt_op rfl rfl ?_
  refine tt_op rfl rfl ?_
  refine tt_get rfl (by assumption) (by rfl) ?_
  refine tt_op rfl rfl ?_
  refine z_iald (j := 0) rfl c2 rfl (by omega) (by decide) ?_
  refine tt_op rfl rfl ?_
  refine tt_op rfl rfl ?_
  refine tt_get rfl (by assumption) (by rfl) ?_
  refine tt_op rfl rfl ?_
  refine z_iald (j := 1) rfl c2 rfl (by omega) (by decide) ?_
  refine tt_op rfl rfl ?_
  refine tt_op rfl rfl ?_
  refine tt_get rfl (by assumption) (by rfl) ?_
  refine tt_op rfl rfl ?_
  refine z_iald (j := 2) rfl c2 rfl (by omega) (by decide) ?_
  refine tt_op rfl rfl ?_
  refine tt_op rfl rfl ?_
  refine tt_get rfl (by assumption) (by rfl) ?_
  refine tt_get rfl (by assumption) (by rfl) ?_
  refine tt_op rfl rfl ?_
  refine tt_get rfl (by assumption) (by rfl) ?_
  refine z_dif rfl rfl rfl ?_
  refine tt_pS rfl rfl rfl rfl (c_ntz _ hw h0 _ _) ?_
  refine tt_op rfl rfl ?_
  refine tt_op rfl rfl ?_
  refine tt_get rfl (by assumption) (by rfl) ?_
  refine tt_get rfl (by assumption) (by rfl) ?_
  refine tt_op rfl rfl ?_
  refine tt_op rfl rfl ?_
  refine tt_op rfl rfl ?_
  refine tt_op rfl rfl ?_
  refine tt_pV rfl rfl rfl k1 rfl (c_box K _ _ _ _ (v6 0 (by omega)) (v6 1 (by omega)) (v6 2 (by omega)) ht) ?_
  refine tt_op rfl rfl ?_
  refine tt_op rfl rfl ?_
  refine tt_op rfl rfl ?_
  refine tt_get rfl (by assumption) (by rfl) ?_
  refine tt_get rfl (by assumption) (by rfl) ?_
  refine tt_op rfl rfl ?_
  refine tt_op rfl rfl ?_
  refine tt_op rfl rfl ?_
  refine tt_pV rfl rfl rfl h59 rfl (c_image' s i _ hi (v6 0 (by omega))) ?_
  refine tt_op rfl rfl ?_
  refine tt_op rfl rfl ?_
  refine tt_op rfl rfl ?_
  refine tt_pV rfl rfl rfl h59 rfl (c_image' s i _ hi (v6 1 (by omega))) ?_
  refine tt_op rfl rfl ?_
  refine tt_op rfl rfl ?_
  refine tt_op rfl rfl ?_
  refine tt_pV rfl rfl rfl h59 rfl (c_image' s i _ hi (v6 2 (by omega))) ?_
  refine tt_op rfl rfl ?_
  refine tt_op rfl rfl ?_
  refine tt_op rfl rfl ?_
  refine tt_pV rfl rfl rfl h59 rfl (c_image' s i _ hi ht) ?_
  refine tt_pV rfl rfl rfl k1 rfl (c_box K _ _ _ _ (imF_lt hs hi (v6 0 (by omega))) (imF_lt hs hi (v6 1 (by omega))) (imF_lt hs hi (v6 2 (by omega))) (imF_lt hs hi ht)) ?_
  refine z_lif rfl rfl (bxs_bd hb (v6 0 (by omega)) (v6 1 (by omega)) (v6 2 (by omega)) ht) (bxs_bd hb (imF_lt hs hi (v6 0 (by omega))) (imF_lt hs hi (v6 1 (by omega))) (imF_lt hs hi (v6 2 (by omega))) (imF_lt hs hi ht)) (fun c3 => ?_) (fun c3 => ?_)
  · have c3 : ¬ khB P CB (f 0) (imF s i) := c3
    rw [if_neg c3]
    refine tt_op rfl rfl ?_
    refine tt_ireturn rfl rfl (by rfl) (Nat.le_of_ble_eq_true rfl) (Nat.le_of_ble_eq_true rfl) ?_
    exact ⟨rfl, rfl, rfl⟩
  · have c3 : khB P CB (f 0) (imF s i) := Decidable.of_not_not c3
    rw [if_pos c3]
    refine tt_op rfl rfl ?_
    refine tt_goto rfl ?_
    refine tt_ireturn rfl rfl (by rfl) (Nat.le_of_ble_eq_true rfl) (Nat.le_of_ble_eq_true rfl) ?_
    exact ⟨rfl, rfl, rfl⟩
/-- how long a ring is -/
def rgR (g : Nat → Nat) (co : Nat) : Nat → Nat → Nat → Nat
  | 0, l, _ => l
  | k + 1, l, x => if x = co then l else rgR g co k (l + 1) (g x)
theorem rgR_bd (g : Nat → Nat) (co : Nat) : ∀ (k l x : Nat), l ≤ rgR g co k l x ∧ rgR g co k l x ≤ l + k
  | 0, l, x => ⟨Nat.le_refl _, Nat.le_refl _⟩
  | k + 1, l, x => by
    unfold rgR
    split
    · omega
    · have := rgR_bd g co k (l + 1) (g x)
      omega
def rgF (g : Nat → Nat) (co : Nat) : Nat := rgR g co 13 1 (g co)
set_option maxRecDepth 10000 in
theorem c_ring_loop (s : St) (hs : mOk s) (i co : Nat) (hi : i < 48) (hc : co < 14) : ∀ (k l x : Nat), l + k = 14 → x < 14 → xT xmX2_ringLength (3, 0, 0, 0, 0) 10 [some (.ref 59), some (zI i), some (zI co), some (zI x), some (zI l)] [] n (moH h s) (fun r n' h' => r = some (zI (rgR (imF s i) co k l x)) ∧ n' = n ∧ h' = moH h s) := by
  have h59 := moH_59 (h := h) (s := s)
  intro k
  induction k with
  | zero =>
    intro l x hl hx
    unfold rgR
    refine tt_op rfl rfl ?_
    refine tt_op rfl rfl ?_
    refine z_icmp rfl (by first | assumption | (unfold R3; omega)) (by first | assumption | (unfold R3; omega)) (fun c1 => ?_) (fun c1 => ?_)
    · refine tt_op rfl rfl ?_
      refine tt_ireturn rfl rfl (by rfl) (Nat.le_of_ble_eq_true rfl) (Nat.le_of_ble_eq_true rfl) ?_
      exact ⟨rfl, rfl, rfl⟩
    · refine tt_op rfl rfl ?_
      refine tt_op rfl rfl ?_
      refine z_icmp rfl (by first | assumption | (unfold R3; omega)) (by first | assumption | (unfold R3; omega)) (fun c => ?_) (fun c => absurd (by simp only [zcd] <;> omega) c)
      refine tt_op rfl rfl ?_
      refine tt_ireturn rfl rfl (by rfl) (Nat.le_of_ble_eq_true rfl) (Nat.le_of_ble_eq_true rfl) ?_
      exact ⟨rfl, rfl, rfl⟩
  | succ k ih =>
    intro l x hl hx
    unfold rgR
    refine tt_op rfl rfl ?_
    refine tt_op rfl rfl ?_
    refine z_icmp rfl (by first | assumption | (unfold R3; omega)) (by first | assumption | (unfold R3; omega)) (fun c1 => ?_) (fun c1 => ?_)
    · have c1 : (x : Int) = co := c1
      rw [if_pos (by omega)]
      refine tt_op rfl rfl ?_
      refine tt_ireturn rfl rfl (by rfl) (Nat.le_of_ble_eq_true rfl) (Nat.le_of_ble_eq_true rfl) ?_
      exact ⟨rfl, rfl, rfl⟩
    · have c1 : ¬ (x : Int) = co := c1
      rw [if_neg (by omega)]
      refine tt_op rfl rfl ?_
      refine tt_op rfl rfl ?_
      refine z_icmp rfl (by first | assumption | (unfold R3; omega)) (by first | assumption | (unfold R3; omega)) (fun c => absurd c (by simp only [zcd] <;> omega)) (fun c => ?_)
      refine tt_op rfl rfl ?_
      refine tt_op rfl rfl ?_
      refine tt_op rfl rfl ?_
      refine tt_pV rfl rfl rfl h59 rfl (c_image' s i x hi hx) ?_
      refine tt_op rfl rfl ?_
      refine z_iinc rfl rfl rfl ?_
      refine tt_goto rfl ?_
      exact ih (l + 1) _ (by omega) (imF_lt hs hi hx)
set_option maxRecDepth 10000 in
theorem c_ringLength (s : St) (hs : mOk s) (i co : Nat) (hi : i < 48) (hc : co < 14) : xPure xmX2_ringLength 3 [.ref 59, zI i, zI co] n (moH h s) (zI (rgF (imF s i) co)) := by
  have h59 := moH_59 (h := h) (s := s)
  refine xCall.of xgX2_ringLength rfl ?_
  refine tt_op rfl rfl ?_
  refine tt_op rfl rfl ?_
  refine tt_op rfl rfl ?_
  refine tt_pV rfl rfl rfl h59 rfl (c_image' s i co hi hc) ?_
  refine tt_op rfl rfl ?_
  refine tt_op rfl rfl ?_
  refine tt_op rfl rfl ?_
  exact c_ring_loop s hs i co hi hc 13 1 _ rfl (imF_lt hs hi hc)
def pdR (CB : Nat) (g : Nat → Nat) : Nat → Nat → Nat → Nat
  | 0, _, l => l
  | k + 1, i, l => pdR CB g k (i + 1) (Nat.lcm l (if CB.testBit i = true then rgF g i else 1))
theorem dv_all : ∀ r, 1 ≤ r → r ≤ 14 → r ∣ 360360 := by
  intro r h1 h2
  have : ∀ r, r < 15 → 1 ≤ r → 360360 % r = 0 := by decide
  exact Nat.dvd_of_mod_eq_zero (this r (by omega) h1)
theorem rg_dv (g : Nat → Nat) (co : Nat) : rgF g co ∣ 360360 := by
  have := rgR_bd g co 13 1 (g co)
  exact dv_all _ this.1 (by unfold rgF; omega)
theorem z_l2i (z : Int) : (Int64.ofInt z).toInt32 = Int32.ofInt z := Int64.toInt32_ofInt
theorem lcm_tdiv (l r : Nat) (hl : 0 < l) : ((l : Int).tdiv ((Int.gcd l r : Nat) : Int)) * (r : Int) = ((Nat.lcm l r : Nat) : Int) := by
  have e : Int.gcd (l : Int) (r : Int) = Nat.gcd l r := rfl
  rw [e, ← Int.ofNat_tdiv]
  have : l / Nat.gcd l r * r = Nat.lcm l r := by
    unfold Nat.lcm
    rw [Nat.mul_comm (l / _) r, Nat.mul_comm l r, Nat.mul_div_assoc _ (Nat.gcd_dvd_left l r)]
  rw [← this]
  simp
set_option maxRecDepth 10000 in
set_option maxHeartbeats 1000000 in
theorem c_period_loop (h5 : h 5 = some (huC F E CB six)) (hCB : CB < 16384) (s : St) (hs : mOk s) (i : Nat) (hi : i < 48) : ∀ (k j l : Nat) (l5 l7 : Option Value), j + k = 14 → l ∣ 360360 → xT xmX2_period (5, 0, 0, 0, 0) 5 [some (.ref 59), some (zI i), some (zJ l), none, some (zI j), l5, none, l7, none] [] n (moH h s) (fun r n' h' => r = some (zI (pdR CB (imF s i) k j l)) ∧ n' = n ∧ h' = moH h s) := by
  have h59 := moH_59 (h := h) (s := s)
  have g5 : moH h s 5 = some (huC F E CB six) := by rw [moH_n (by omega) (by omega) (by omega)]; exact h5
  intro k
  induction k with
  | zero =>
    intro j l l5 l7 hj hl
    refine tt_op rfl rfl ?_
    refine tt_op rfl rfl ?_
    refine z_icmp rfl (by first | assumption | (unfold R3; omega)) (by first | assumption | (unfold R3; omega)) (fun c => ?_) (fun c => absurd (by simp only [zcd] <;> omega) c)
    refine tt_op rfl rfl ?_
    refine tt_op rfl rfl ?_
    rw [z_l2i]
    refine tt_ireturn rfl rfl (by rfl) (Nat.le_of_ble_eq_true rfl) (Nat.le_of_ble_eq_true rfl) ?_
    exact ⟨rfl, rfl, rfl⟩
  | succ k ih =>
    intro j l l5 l7 hj hl
    unfold pdR
    have l0 : 0 < l := Nat.pos_of_dvd_of_pos hl (by decide)
    have l1 : l ≤ 360360 := Nat.le_of_dvd (by decide) hl
    have go : ∀ (r : Nat) (l5 : Option Value), 1 ≤ r → r ≤ 14 → r = (if CB.testBit j = true then rgF (imF s i) j else 1) → xT xmX2_period (5, 0, 0, 0, 0) 36 [some (.ref 59), some (zI i), some (zJ l), none, some (zI j), l5, none, l7, none] [zJ r] n (moH h s) (fun res n' h' => res = some (zI (pdR CB (imF s i) k (j + 1) (Nat.lcm l (if CB.testBit j = true then rgF (imF s i) j else 1)))) ∧ n' = n ∧ h' = moH h s) := by
      intro r l5 r1 r2 hr
      rw [← hr]
      have g0 : 0 < Int.gcd (l : Int) (r : Int) := Int.gcd_pos_of_ne_zero_left _ (by omega)
      have g1 : Int.gcd (l : Int) (r : Int) ≤ l := Nat.le_of_dvd l0 (Nat.gcd_dvd_left l r)
      refine tt_op rfl rfl ?_
      refine tt_op rfl rfl ?_
      refine tt_op rfl rfl ?_
      refine tt_pS rfl rfl rfl rfl (c_divisor l r ⟨by omega, by omega⟩ ⟨by omega, by omega⟩ _ _) ?_
      refine tt_op rfl rfl ?_
      refine tt_op rfl rfl ?_
      refine tt_op rfl rfl ?_
      refine z_lif rfl rfl ⟨by omega, by omega⟩ ⟨by decide, by decide⟩ (fun c => ?_) (fun c => absurd (by simp only [zcd]; omega) c)
      refine tt_op rfl rfl ?_
      refine tt_op rfl rfl ?_
      refine z_ldiv rfl (by omega) ⟨by omega, by omega⟩ (by omega) ⟨by omega, by omega⟩ ?_
      refine tt_op rfl rfl ?_
      refine z_lmul rfl ?_
      rw [lcm_tdiv l r l0]
      refine tt_op rfl rfl ?_
      refine z_iinc rfl rfl rfl ?_
      refine tt_goto rfl ?_
      exact ih (j + 1) _ _ _ (by omega) (Nat.lcm_dvd hl (dv_all r r1 r2))
    refine tt_op rfl rfl ?_
    refine tt_op rfl rfl ?_
    refine z_icmp rfl (by first | assumption | (unfold R3; omega)) (by first | assumption | (unfold R3; omega)) (fun c => absurd c (by simp only [zcd] <;> omega)) (fun c => ?_)
    refine tt_op rfl rfl ?_
    refine tt_get rfl (by assumption) (by rfl) ?_
    refine tt_op rfl rfl ?_
    refine tt_pV rfl rfl rfl g5 rfl (c_isCorner g5 j (by omega) hCB) ?_
    refine z_if rfl (by split <;> exact ⟨by decide, by decide⟩) (fun c1 => ?_) (fun c1 => ?_)
    · have hx : ¬ CB.testBit j = true := by
        intro y; simp [zcd, y] at c1
      refine tt_op rfl rfl ?_
      exact go 1 _ (by omega) (by omega) (by rw [if_neg hx])
    · have hx : CB.testBit j = true := by
        cases hx : CB.testBit j with
        | true => rfl
        | false => simp [zcd, hx] at c1
      have hrg := rgR_bd (imF s i) j 13 1 (imF s i j)
      have hrg1 : 1 ≤ rgF (imF s i) j := hrg.1
      have hrg2 : rgF (imF s i) j ≤ 14 := hrg.2
      refine tt_op rfl rfl ?_
      refine tt_op rfl rfl ?_
      refine tt_op rfl rfl ?_
      refine tt_pV rfl rfl rfl h59 rfl (c_ringLength s hs i j hi (by omega)) ?_
      refine z_il rfl (by first | assumption | (unfold R3; omega)) ?_
      refine tt_goto rfl ?_
      exact go _ _ hrg1 hrg2 (by rw [if_pos hx])
set_option maxRecDepth 10000 in
theorem c_period (h5 : h 5 = some (huC F E CB six)) (hCB : CB < 16384) (s : St) (hs : mOk s) (i : Nat) (hi : i < 48) : xPure xmX2_period 5 [.ref 59, zI i] n (moH h s) (zI (pdR CB (imF s i) 14 0 1)) := by
  refine xCall.of xgX2_period rfl ?_
  refine tt_op rfl rfl ?_
  refine tt_op rfl rfl ?_
  refine tt_op rfl rfl ?_
  refine tt_op rfl rfl ?_
  exact c_period_loop h5 hCB s hs i hi 14 0 1 none none rfl (by decide)
end MO2
