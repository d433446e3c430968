/-! What the hull is asked -/
theorem dot_bd2 {u v : V3} {A B C : Int} (hu : vbd A u) (hv : vbd B v) (hC : 3 * (A * B) ≤ C) : -C ≤ dot u v ∧ dot u v ≤ C := by
  have := dot_bd hu hv
  omega
section QU
variable {h : xHp} {m : Nat} {P : Nat → V3} {n : Nat} {ad : Nat → Nat} {f : Nat → FD} {F E CB : Nat} {six : Int}
/-- 2 within, 1 on a face, 0 outside -/
def plR (f : Nat → FD) (u : V3) (dn : Int) : Nat → Nat → Nat → Nat
  | 0, _, v => v
  | k + 1, i, v => if 0 < dot (f i).1 u - (f i).2.1 * dn then 0 else plR f u dn k (i + 1) (if dot (f i).1 u - (f i).2.1 * dn = 0 then 1 else v)
set_option maxRecDepth 10000 in
set_option maxHeartbeats 1000000 in
theorem c_place_loop (h5 : h 5 = some (huC F E CB six)) (H : xHf h ad f) (hF : F ≤ 24) (u : V3) (dn : Int) (hu : vbd 100000 u) (hd : 0 ≤ dn ∧ dn ≤ 1000) : ∀ (k i v : Nat) (l11 l12 : Option Value), i + k = F → xT xmX1_place (1, 0, 0, 0, 0) 6 [some (.ref 5), some (zJ u.1), none, some (zJ u.2.1), none, some (zJ u.2.2), none, some (zJ dn), none, some (zI v), some (zI i), l11, l12, none] [] n h (fun r n' h' => r = some (zI (plR f u dn k i v)) ∧ n' = n ∧ h' = h) := by
  obtain ⟨⟨rd, g6, grd⟩, gA, gI, gC, gV⟩ := H
  intro k
  induction k with
  | zero =>
    intro i v l11 l12 hi
    refine tt_op rfl rfl ?_
    refine tt_op rfl rfl ?_
    refine tt_get rfl (by assumption) (by rfl) ?_
    refine z_icmp rfl (by first | assumption | (unfold R3; omega)) (by first | assumption | (unfold R3; omega)) (fun c => ?_) (fun c => absurd (by simp only [zcd] <;> omega) c)
    refine tt_op rfl rfl ?_
    refine tt_ireturn rfl rfl (by rfl) (Nat.le_of_ble_eq_true rfl) (Nat.le_of_ble_eq_true rfl) ?_
    exact ⟨rfl, rfl, rfl⟩
  | succ k ih =>
    intro i v l11 l12 hi
    obtain ⟨o1, r1⟩ := gC i (by omega)
    obtain ⟨v1, v2, -⟩ := gV i (by omega)
    have b1 := dot_bd v1 hu
    have b2 := mul_bd (A := 1000000) (B := 1000) v2 ⟨by omega, hd.2⟩
    have hR : R6 (dot (f i).1 u - (f i).2.1 * dn) := by unfold R6; omega
    unfold plR
    generalize hE : (if 0 < dot (f i).1 u - (f i).2.1 * dn then 0 else plR f u dn k (i + 1) (if dot (f i).1 u - (f i).2.1 * dn = 0 then 1 else v)) = E'
    refine tt_op rfl rfl ?_
    refine tt_op rfl rfl ?_
    refine tt_get rfl (by assumption) (by rfl) ?_
    refine z_icmp rfl (by first | assumption | (unfold R3; omega)) (by first | assumption | (unfold R3; omega)) (fun c => absurd c (by simp only [zcd] <;> omega)) (fun c => ?_)
    refine tt_op rfl rfl ?_
    refine tt_op rfl rfl ?_
    refine z_icmp rfl (by first | assumption | (unfold R3; omega)) (by first | assumption | (unfold R3; omega)) (fun c => absurd c (by simp only [zcd] <;> omega)) (fun c => ?_)
    refine tt_op rfl rfl ?_
    refine tt_get rfl (by assumption) (by rfl) ?_
    refine tt_op rfl rfl ?_
    refine z_aald rfl g6 rfl (by omega) (by decide) (grd i (by omega)) ?_
    refine tt_op rfl rfl ?_
    refine tt_op rfl rfl ?_
    refine tt_get rfl (by assumption) (by rfl) ?_
    refine tt_op rfl rfl ?_
    refine z_lmul rfl ?_
    refine tt_op rfl rfl ?_
    refine tt_get rfl (by assumption) (by rfl) ?_
    refine tt_op rfl rfl ?_
    refine z_lmul rfl ?_
    refine z_ladd rfl ?_
    refine tt_op rfl rfl ?_
    refine tt_get rfl (by assumption) (by rfl) ?_
    refine tt_op rfl rfl ?_
    refine z_lmul rfl ?_
    refine z_ladd rfl ?_
    refine tt_op rfl rfl ?_
    refine tt_get rfl (by assumption) (by rfl) ?_
    refine tt_op rfl rfl ?_
    refine z_lmul rfl ?_
    refine z_lsub rfl ?_
    refine tt_op rfl rfl ?_
    refine tt_op rfl rfl ?_
    refine tt_op rfl rfl ?_
    refine z_lif rfl rfl hR ⟨by decide, by decide⟩ (fun c1 => ?_) (fun c1 => ?_)
    rotate_left
    · have c1 : ¬ dot (f i).1 u - (f i).2.1 * dn ≤ 0 := c1
      rw [if_pos (by omega)] at hE
      subst hE
      refine tt_op rfl rfl ?_
      refine tt_ireturn rfl rfl (by rfl) (Nat.le_of_ble_eq_true rfl) (Nat.le_of_ble_eq_true rfl) ?_
      exact ⟨rfl, rfl, rfl⟩
    have c1 : dot (f i).1 u - (f i).2.1 * dn ≤ 0 := c1
    rw [if_neg (by omega)] at hE
    subst hE
    refine tt_op rfl rfl ?_
    refine tt_op rfl rfl ?_
    refine z_lif rfl rfl hR ⟨by decide, by decide⟩ (fun c2 => ?_) (fun c2 => ?_)
    · have c2 : dot (f i).1 u - (f i).2.1 * dn ≠ 0 := c2
      rw [if_neg c2]
      refine z_iinc rfl rfl rfl ?_
      refine tt_goto rfl ?_
      exact ih (i + 1) v _ _ (by omega)
    · have c2 : ¬ dot (f i).1 u - (f i).2.1 * dn ≠ 0 := c2
      rw [if_pos (by omega)]
      refine tt_op rfl rfl ?_
      refine tt_op rfl rfl ?_
      refine z_iinc rfl rfl rfl ?_
      refine tt_goto rfl ?_
      exact ih (i + 1) 1 _ _ (by omega)
set_option maxRecDepth 10000 in
theorem c_place (h5 : h 5 = some (huC F E CB six)) (H : xHf h ad f) (hF : F ≤ 24) (u : V3) (dn : Int) (hu : vbd 100000 u) (hd : 0 ≤ dn ∧ dn ≤ 1000) : xPure xmX1_place 1 [.ref 5, zJ u.1, zJ u.2.1, zJ u.2.2, zJ dn] n h (zI (plR f u dn F 0 2)) := by
  refine xCall.of xgX1_place rfl ?_
  refine tt_op rfl rfl ?_
  refine tt_op rfl rfl ?_
  refine tt_op rfl rfl ?_
  refine tt_op rfl rfl ?_
  exact c_place_loop h5 H hF u dn hu hd F 0 2 none none (by omega)
theorem plR_fe {f g : Nat → FD} {u : V3} {dn : Int} : ∀ (k i v : Nat), (∀ j, j < i + k → feq (f j) (g j)) → plR f u dn k i v = plR g u dn k i v
  | 0, i, v, h => rfl
  | k + 1, i, v, h => by
    have e := h i (by omega)
    unfold plR
    rw [e.1, e.2.1]
    split
    · rfl
    · exact plR_fe k (i + 1) _ (fun j hj => h j (by omega))
/-- the greatest of the corners -/
def gtR (P : Nat → V3) (CB : Nat) (d : V3) : Nat → Nat → Int → Int
  | 0, _, w => w
  | k + 1, i, w => gtR P CB d k (i + 1) (if CB.testBit i = true then (if dot d (P i) < w then w else dot d (P i)) else w)
set_option maxRecDepth 10000 in
set_option maxHeartbeats 1000000 in
theorem c_great_loop (HC : xCl h m P) (h5 : h 5 = some (huC F E CB six)) (hCB : CB < 16384) (d : V3) (hd : vbd 20 d) : ∀ (k i : Nat) (w : Int), i + k = 14 → (-1000000000000 ≤ w ∧ w ≤ 1000000000000) → xT xmX1_greatest (4, 0, 0, 0, 0) 8 [some (.ref 5), some (zJ d.1), none, some (zJ d.2.1), none, some (zJ d.2.2), none, some (zJ w), none, some (zI i)] [] n h (fun r n' h' => r = some (zJ (gtR P CB d k i w)) ∧ n' = n ∧ h' = h) := by
  have hb := HC.2.2.2.2.2
  have h1 := HC.1
  intro k
  induction k with
  | zero =>
    intro i w hi hw
    refine tt_op rfl rfl ?_
    refine tt_op rfl rfl ?_
    refine z_icmp rfl (by first | assumption | (unfold R3; omega)) (by first | assumption | (unfold R3; omega)) (fun c => ?_) (fun c => absurd (by simp only [zcd] <;> omega) c)
    refine tt_op rfl rfl ?_
    refine tt_lreturn rfl rfl (Nat.le_of_ble_eq_true rfl) (Nat.le_of_ble_eq_true rfl) ?_
    exact ⟨rfl, rfl, rfl⟩
  | succ k ih =>
    intro i w hi hw
    have b1 := dot_bd hd (hb i (by omega))
    unfold gtR
    refine tt_op rfl rfl ?_
    refine tt_op rfl rfl ?_
    refine z_icmp rfl (by first | assumption | (unfold R3; omega)) (by first | assumption | (unfold R3; omega)) (fun c => absurd c (by simp only [zcd] <;> omega)) (fun c => ?_)
    refine tt_op rfl rfl ?_
    refine tt_op rfl rfl ?_
    refine tt_pV rfl rfl rfl h5 rfl (c_isCorner h5 i (by omega) hCB) ?_
    refine z_if rfl (by split <;> exact ⟨by decide, by decide⟩) (fun c1 => ?_) (fun c1 => ?_)
    · cases hx : CB.testBit i with
      | true => simp [zcd, hx] at c1
      | false =>
        simp only [Bool.false_eq_true, if_false]
        refine z_iinc rfl rfl rfl ?_
        refine tt_goto rfl ?_
        exact ih (i + 1) w (by omega) hw
    · cases hx : CB.testBit i with
      | false => simp [zcd, hx] at c1
      | true =>
        simp only [if_true]
        refine tt_op rfl rfl ?_
        refine tt_op rfl rfl ?_
        refine tt_get rfl (by assumption) (by rfl) ?_
        refine tt_op rfl rfl ?_
        refine tt_op rfl rfl ?_
        refine tt_op rfl rfl ?_
        refine tt_op rfl rfl ?_
        refine tt_pV rfl rfl rfl h1 rfl (c_sum HC i (by omega) _ _ _) ?_
        refine tt_max rfl ?_
        have hq : Int64.ofInt (dot d (P i)) < Int64.ofInt w ↔ dot d (P i) < w := z6_lt ⟨by omega, by omega⟩ ⟨by omega, by omega⟩
        by_cases hlt : dot d (P i) < w
        · rw [if_pos (show Int64.ofInt (dot (d.1, d.2.1, d.2.2) (P i)) < Int64.ofInt w from hq.mpr hlt), if_pos hlt]
          refine tt_op rfl rfl ?_
          refine z_iinc rfl rfl rfl ?_
          refine tt_goto rfl ?_
          exact ih (i + 1) w (by omega) hw
        · rw [if_neg (show ¬ Int64.ofInt (dot (d.1, d.2.1, d.2.2) (P i)) < Int64.ofInt w from fun z => hlt (hq.mp z)), if_neg hlt]
          refine tt_op rfl rfl ?_
          refine z_iinc rfl rfl rfl ?_
          refine tt_goto rfl ?_
          exact ih (i + 1) (dot d (P i)) (by omega) ⟨by omega, by omega⟩
set_option maxRecDepth 10000 in
theorem c_greatest (HC : xCl h m P) (h5 : h 5 = some (huC F E CB six)) (hCB : CB < 16384) (d : V3) (hd : vbd 20 d) : xPure xmX1_greatest 4 [.ref 5, zJ d.1, zJ d.2.1, zJ d.2.2] n h (zJ (gtR P CB d 14 0 (-1000000000000))) := by
  refine xCall.of xgX1_greatest rfl ?_
  refine tt_op rfl rfl ?_
  refine tt_op rfl rfl ?_
  refine tt_op rfl rfl ?_
  refine tt_op rfl rfl ?_
  exact c_great_loop HC h5 hCB d hd 14 0 (-1000000000000) rfl ⟨by decide, by decide⟩
/-- the corners with that height -/
def caR (P : Nat → V3) (CB : Nat) (d : V3) (z : Int) : Nat → Nat → Nat → Nat
  | 0, _, w => w
  | k + 1, i, w => caR P CB d z k (i + 1) (if CB.testBit i = true ∧ dot d (P i) = z then w ||| 2 ^ i else w)
set_option maxRecDepth 10000 in
set_option maxHeartbeats 1000000 in
theorem c_cat_loop (HC : xCl h m P) (h5 : h 5 = some (huC F E CB six)) (hCB : CB < 16384) (d : V3) (hd : vbd 20 d) (z : Int) (hz : R6 z) : ∀ (k i w : Nat), i + k = 14 → xT xmX1_cornersAt (4, 0, 0, 0, 0) 6 [some (.ref 5), some (zJ d.1), none, some (zJ d.2.1), none, some (zJ d.2.2), none, some (zJ z), none, some (zI w), some (zI i)] [] n h (fun r n' h' => r = some (zI (caR P CB d z k i w)) ∧ n' = n ∧ h' = h) := by
  have hb := HC.2.2.2.2.2
  have h1 := HC.1
  intro k
  induction k with
  | zero =>
    intro i w hi
    refine tt_op rfl rfl ?_
    refine tt_op rfl rfl ?_
    refine z_icmp rfl (by first | assumption | (unfold R3; omega)) (by first | assumption | (unfold R3; omega)) (fun c => ?_) (fun c => absurd (by simp only [zcd] <;> omega) c)
    refine tt_op rfl rfl ?_
    refine tt_ireturn rfl rfl (by rfl) (Nat.le_of_ble_eq_true rfl) (Nat.le_of_ble_eq_true rfl) ?_
    exact ⟨rfl, rfl, rfl⟩
  | succ k ih =>
    intro i w hi
    have b1 := dot_bd hd (hb i (by omega))
    unfold caR
    have nx : ¬ (CB.testBit i = true ∧ dot d (P i) = z) → xT xmX1_cornersAt (4, 0, 0, 0, 0) 50 [some (.ref 5), some (zJ d.1), none, some (zJ d.2.1), none, some (zJ d.2.2), none, some (zJ z), none, some (zI w), some (zI i)] [] n h (fun r n' h' => r = some (zI (caR P CB d z k (i + 1) (if CB.testBit i = true ∧ dot d (P i) = z then w ||| 2 ^ i else w))) ∧ n' = n ∧ h' = h) := by
      intro hno
      rw [if_neg hno]
      refine z_iinc rfl rfl rfl ?_
      refine tt_goto rfl ?_
      exact ih (i + 1) w (by omega)
    refine tt_op rfl rfl ?_
    refine tt_op rfl rfl ?_
    refine z_icmp rfl (by first | assumption | (unfold R3; omega)) (by first | assumption | (unfold R3; omega)) (fun c => absurd c (by simp only [zcd] <;> omega)) (fun c => ?_)
    refine tt_op rfl rfl ?_
    refine tt_op rfl rfl ?_
    refine tt_pV rfl rfl rfl h5 rfl (c_isCorner h5 i (by omega) hCB) ?_
    refine z_if rfl (by split <;> exact ⟨by decide, by decide⟩) (fun c1 => ?_) (fun c1 => ?_)
    · refine nx (fun y => ?_)
      simp [zcd, y.1] at c1
    · have hbit : CB.testBit i = true := by
        cases hx : CB.testBit i with
        | true => rfl
        | false => simp [zcd, hx] at c1
      refine tt_op rfl rfl ?_
      refine tt_get rfl (by assumption) (by rfl) ?_
      refine tt_op rfl rfl ?_
      refine tt_op rfl rfl ?_
      refine tt_op rfl rfl ?_
      refine tt_op rfl rfl ?_
      refine tt_pV rfl rfl rfl h1 rfl (c_sum HC i (by omega) _ _ _) ?_
      refine tt_op rfl rfl ?_
      refine z_lif rfl rfl (show R6 (dot d (P i)) by unfold R6; omega) hz (fun c2 => ?_) (fun c2 => ?_)
      · have c2 : dot d (P i) ≠ z := c2
        exact nx (fun y => c2 y.2)
      · have c2 : ¬ dot d (P i) ≠ z := c2
        rw [if_pos ⟨hbit, by omega⟩]
        refine tt_op rfl rfl ?_
        refine tt_op rfl rfl ?_
        refine tt_op rfl rfl ?_
        refine z_shl1 rfl (by omega) ?_
        refine z_ior rfl ?_
        refine tt_op rfl rfl ?_
        refine z_iinc rfl rfl rfl ?_
        refine tt_goto rfl ?_
        exact ih (i + 1) _ (by omega)
set_option maxRecDepth 10000 in
theorem c_cornersAt (HC : xCl h m P) (h5 : h 5 = some (huC F E CB six)) (hCB : CB < 16384) (d : V3) (hd : vbd 20 d) (z : Int) (hz : R6 z) : xPure xmX1_cornersAt 4 [.ref 5, zJ d.1, zJ d.2.1, zJ d.2.2, zJ z] n h (zI (caR P CB d z 14 0 0)) := by
  refine xCall.of xgX1_cornersAt rfl ?_
  refine tt_op rfl rfl ?_
  refine tt_op rfl rfl ?_
  refine tt_op rfl rfl ?_
  refine tt_op rfl rfl ?_
  exact c_cat_loop HC h5 hCB d hd z hz 14 0 0 rfl
/-- those beside any of these -/
def baR (b : Nat → Nat) (w : Nat) : Nat → Nat → Nat → Nat
  | 0, _, v => v
  | k + 1, i, v => baR b w k (i + 1) (if w.testBit i = true then v ||| b i else v)
set_option maxRecDepth 10000 in
theorem c_bany_loop (b : Nat → Nat) (h5 : h 5 = some (huC F E CB six)) (h7 : h 7 = some (bA b)) (w : Nat) (hw : w < 16384) : ∀ (k i v : Nat), i + k = 14 → xT xmX1_besideAny (1, 0, 0, 0, 0) 4 [some (.ref 5), some (zI w), some (zI v), some (zI i)] [] n h (fun r n' h' => r = some (zI (baR b w k i v)) ∧ n' = n ∧ h' = h) := by
  intro k
  induction k with
  | zero =>
    intro i v hi
    refine tt_op rfl rfl ?_
    refine tt_op rfl rfl ?_
    refine z_icmp rfl (by first | assumption | (unfold R3; omega)) (by first | assumption | (unfold R3; omega)) (fun c => ?_) (fun c => absurd (by simp only [zcd] <;> omega) c)
    refine tt_op rfl rfl ?_
    refine tt_ireturn rfl rfl (by rfl) (Nat.le_of_ble_eq_true rfl) (Nat.le_of_ble_eq_true rfl) ?_
    exact ⟨rfl, rfl, rfl⟩
  | succ k ih =>
    intro i v hi
    unfold baR
    refine tt_op rfl rfl ?_
    refine tt_op rfl rfl ?_
    refine z_icmp rfl (by first | assumption | (unfold R3; omega)) (by first | assumption | (unfold R3; omega)) (fun c => absurd c (by simp only [zcd] <;> omega)) (fun c => ?_)
    refine tt_op rfl rfl ?_
    refine tt_op rfl rfl ?_
    refine z_tb rfl rfl rfl (by omega) (by omega) ?_
    refine z_if rfl (by split <;> exact ⟨by decide, by decide⟩) (fun c1 => ?_) (fun c1 => ?_)
    · cases hx : w.testBit i with
      | true => simp [zcd, hx] at c1
      | false =>
        simp only [Bool.false_eq_true, if_false]
        refine z_iinc rfl rfl rfl ?_
        refine tt_goto rfl ?_
        exact ih (i + 1) v (by omega)
    · cases hx : w.testBit i with
      | false => simp [zcd, hx] at c1
      | true =>
        simp only [if_true]
        refine tt_op rfl rfl ?_
        refine tt_op rfl rfl ?_
        refine tt_get rfl (by assumption) (by rfl) ?_
        refine tt_op rfl rfl ?_
        refine z_iald rfl (by assumption) rfl (by omega) (by decide) ?_
        refine z_ior rfl ?_
        refine tt_op rfl rfl ?_
        refine z_iinc rfl rfl rfl ?_
        refine tt_goto rfl ?_
        exact ih (i + 1) _ (by omega)
set_option maxRecDepth 10000 in
theorem c_besideAny (b : Nat → Nat) (h5 : h 5 = some (huC F E CB six)) (h7 : h 7 = some (bA b)) (w : Nat) (hw : w < 16384) : xPure xmX1_besideAny 1 [.ref 5, zI w] n h (zI (baR b w 14 0 0)) := by
  refine xCall.of xgX1_besideAny rfl ?_
  refine tt_op rfl rfl ?_
  refine tt_op rfl rfl ?_
  refine tt_op rfl rfl ?_
  refine tt_op rfl rfl ?_
  exact c_bany_loop b h5 h7 w hw 14 0 0 rfl
theorem baR_lt (b : Nat → Nat) (w : Nat) (hb : ∀ j, j < 14 → b j < 16384) : ∀ (k i v : Nat), i + k = 14 → v < 16384 → baR b w k i v < 16384
  | 0, i, v, hi, hv => hv
  | k + 1, i, v, hi, hv => by
    refine baR_lt b w hb k (i + 1) _ (by omega) ?_
    split
    · exact bits_or hv (hb i (by omega))
    · exact hv
/-- the fewest edges -/
def spR (b : Nat → Nat) (to : Nat) : Nat → Nat → Nat → Int
  | 0, _, _ => -1
  | k + 1, s, w => if w.testBit to = true then (s : Int) else spR b to k (s + 1) (w ||| baR b w 14 0 0)
set_option maxRecDepth 10000 in
set_option maxHeartbeats 1000000 in
theorem c_steps_loop (b : Nat → Nat) (h5 : h 5 = some (huC F E CB six)) (h7 : h 7 = some (bA b)) (hb : ∀ j, j < 14 → b j < 16384) (fr to : Nat) (hto : to < 14) : ∀ (k s w : Nat), s + k = 14 → w < 16384 → xT xmX1_steps (2, 0, 0, 0, 0) 7 [some (.ref 5), some (zI fr), some (zI to), some (zI w), some (zI s)] [] n h (fun r n' h' => r = some (zI (spR b to k s w)) ∧ n' = n ∧ h' = h) := by
  intro k
  induction k with
  | zero =>
    intro s w hs hw
    refine tt_op rfl rfl ?_
    refine tt_op rfl rfl ?_
    refine z_icmp rfl (by first | assumption | (unfold R3; omega)) (by first | assumption | (unfold R3; omega)) (fun c => ?_) (fun c => absurd (by simp only [zcd] <;> omega) c)
    refine tt_op rfl rfl ?_
    refine tt_ireturn rfl rfl (by rfl) (Nat.le_of_ble_eq_true rfl) (Nat.le_of_ble_eq_true rfl) ?_
    exact ⟨rfl, rfl, rfl⟩
  | succ k ih =>
    intro s w hs hw
    unfold spR
    refine tt_op rfl rfl ?_
    refine tt_op rfl rfl ?_
    refine z_icmp rfl (by first | assumption | (unfold R3; omega)) (by first | assumption | (unfold R3; omega)) (fun c => absurd c (by simp only [zcd] <;> omega)) (fun c => ?_)
    refine tt_op rfl rfl ?_
    refine tt_op rfl rfl ?_
    refine z_tb rfl rfl rfl (by omega) (by omega) ?_
    refine z_if rfl (by split <;> exact ⟨by decide, by decide⟩) (fun c1 => ?_) (fun c1 => ?_)
    · cases hx : w.testBit to with
      | true => simp [zcd, hx] at c1
      | false =>
        simp only [Bool.false_eq_true, if_false]
        refine tt_op rfl rfl ?_
        refine tt_op rfl rfl ?_
        refine tt_op rfl rfl ?_
        refine tt_pV rfl rfl rfl h5 rfl (c_besideAny b h5 h7 w hw) ?_
        refine z_ior rfl ?_
        refine tt_op rfl rfl ?_
        refine z_iinc rfl rfl rfl ?_
        refine tt_goto rfl ?_
        exact ih (s + 1) _ (by omega) (bits_or hw (baR_lt b w hb 14 0 0 rfl (by decide)))
    · cases hx : w.testBit to with
      | false => simp [zcd, hx] at c1
      | true =>
        simp only [if_true]
        refine tt_op rfl rfl ?_
        refine tt_ireturn rfl rfl (by rfl) (Nat.le_of_ble_eq_true rfl) (Nat.le_of_ble_eq_true rfl) ?_
        exact ⟨rfl, rfl, rfl⟩
set_option maxRecDepth 10000 in
theorem c_steps (b : Nat → Nat) (h5 : h 5 = some (huC F E CB six)) (h7 : h 7 = some (bA b)) (hb : ∀ j, j < 14 → b j < 16384) (fr to : Nat) (hfr : fr < 14) (hto : to < 14) : xPure xmX1_steps 2 [.ref 5, zI fr, zI to] n h (zI (spR b to 14 0 (2 ^ fr))) := by
  refine xCall.of xgX1_steps rfl ?_
  refine tt_op rfl rfl ?_
  refine tt_op rfl rfl ?_
  refine z_shl1 rfl (by omega) ?_
  refine tt_op rfl rfl ?_
  refine tt_op rfl rfl ?_
  refine tt_op rfl rfl ?_
  exact c_steps_loop b h5 h7 hb fr to hto 14 0 (2 ^ fr) rfl (bits_pow hfr)
end QU
