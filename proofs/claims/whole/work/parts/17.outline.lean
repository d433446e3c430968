/-! Outlines -/
theorem mul_bd {a b A B : Int} (ha : -A ≤ a ∧ a ≤ A) (hb : -B ≤ b ∧ b ≤ B) : -(A * B) ≤ a * b ∧ a * b ≤ A * B := by
  have hA : 0 ≤ A := by omega
  have hB : 0 ≤ B := by omega
  have h1 : 0 ≤ (A - a) * (B + b) := Int.mul_nonneg (by omega) (by omega)
  have h2 : 0 ≤ (A + a) * (B - b) := Int.mul_nonneg (by omega) (by omega)
  have h3 : 0 ≤ (A - a) * (B - b) := Int.mul_nonneg (by omega) (by omega)
  have h4 : 0 ≤ (A + a) * (B + b) := Int.mul_nonneg (by omega) (by omega)
  simp only [Int.sub_mul, Int.add_mul, Int.mul_sub, Int.mul_add] at h1 h2 h3 h4
  omega
theorem vbd_sub {u v : V3} (hu : vbd 20 u) (hv : vbd 20 v) : vbd 40 (vsub u v) := by
  unfold vbd vsub at *
  dsimp only
  omega
theorem vbd_cr {u v : V3} {A B : Int} (hu : vbd A u) (hv : vbd B v) : vbd (2 * (A * B)) (vcr u v) := by
  obtain ⟨u1, u2, u3⟩ := hu
  obtain ⟨v1, v2, v3⟩ := hv
  have a1 := mul_bd u2 v3
  have a2 := mul_bd u3 v2
  have a3 := mul_bd u3 v1
  have a4 := mul_bd u1 v3
  have a5 := mul_bd u1 v2
  have a6 := mul_bd u2 v1
  unfold vbd vcr
  dsimp only
  omega
theorem dot_bd {u v : V3} {A B : Int} (hu : vbd A u) (hv : vbd B v) : -(3 * (A * B)) ≤ dot u v ∧ dot u v ≤ 3 * (A * B) := by
  obtain ⟨u1, u2, u3⟩ := hu
  obtain ⟨v1, v2, v3⟩ := hv
  have a1 := mul_bd u1 v1
  have a2 := mul_bd u2 v2
  have a3 := mul_bd u3 v3
  unfold dot
  omega
theorem vbd_le {u : V3} {A B : Int} (h : vbd A u) (hAB : A ≤ B) : vbd B u := by
  unfold vbd at *
  omega
/-- all points within the bounds -/
def pbd (P : Nat → V3) : Prop := ∀ j, j < 14 → vbd 20 (P j)
theorem swg_bd {P : Nat → V3} {p q r : Nat} {d : V3} (hb : pbd P) (hp : p < 14) (hq : q < 14) (hr : r < 14) (hd : vbd 3200 d) : R6 (swg P p q r d) := by
  have h := dot_bd hd (vbd_cr (vbd_sub (hb q hq) (hb p hp)) (vbd_sub (hb r hr) (hb p hp)))
  unfold R6 swg
  omega
theorem spr_bd {P : Nat → V3} {p q : Nat} {d : V3} (hb : pbd P) (hp : p < 14) (hq : q < 14) (hd : vbd 3200 d) : R6 (spr P p q d) := by
  have h1 := vbd_cr (vbd_sub (hb q hq) (hb p hp)) hd
  have h := dot_bd h1 h1
  unfold R6 spr
  omega
/-- an outline's cell -/
abbrev oC (d : V3) (lv : Int) (se me le rw : Nat) : xE := .inr (3, [.ref 1, zJ d.1, zJ d.2.1, zJ d.2.2, zJ lv, zI se, zI me, zI le, .ref rw])
theorem xup_xup {h : xHp} {q : Nat} {e e' : xE} : xup (xup h q e) q e' = xup h q e' := by
  funext j
  by_cases hj : j = q
  · simp [xup, hj]
  · simp [xup, hj]
theorem xup_same {h : xHp} {q : Nat} {e : xE} (hq : h q = some e) : xup h q e = h := by
  funext j
  by_cases hj : j = q
  · subst hj; simp [xup, hq]
  · simp [xup, hj]
theorem xup_comm {h : xHp} {q q' : Nat} {e e' : xE} (hn : q ≠ q') : xup (xup h q e) q' e' = xup (xup h q' e') q e := by
  funext j
  by_cases hj : j = q
  · subst hj; simp [xup, hn]
  · simp [xup, hj]
theorem xCl_up {h : xHp} {m : Nat} {P : Nat → V3} {q : Nat} {e : xE} (hq : 5 ≤ q) (H : xCl h m P) : xCl (xup h q e) m P := by
  obtain ⟨h1, h2, h3, h4, hr⟩ := H
  refine ⟨?_, ?_, ?_, ?_, hr⟩
  all_goals (rw [xup_n (by omega)]; assumption)
section OL
variable {h : xHp} {m : Nat} {P : Nat → V3} {n : Nat}
set_option maxRecDepth 10000 in
theorem c_look (q : Nat) (d0 d : V3) (lv : Int) (se0 se me le rw : Nat) (hq : h q = some (oC d0 lv se0 me le rw)) : xCall xmX3_look 1 0 0 [.ref q, zJ d.1, zJ d.2.1, zJ d.2.2, zI se] n h (fun r n' h' => r = none ∧ n' = n ∧ h' = xup h q (oC d lv se me le rw)) := by
  refine xCall.of xgX3_look rfl ?_
  refine tt_op rfl rfl ?_
  refine tt_op rfl rfl ?_
  refine tt_put rfl (hq) rfl (by decide) (by rfl) (by rfl) rfl ?_
  refine tt_op rfl rfl ?_
  refine tt_op rfl rfl ?_
  refine tt_put rfl (xup_s) rfl (by decide) (by rfl) (by rfl) rfl ?_
  refine tt_op rfl rfl ?_
  refine tt_op rfl rfl ?_
  refine tt_put rfl (xup_s) rfl (by decide) (by rfl) (by rfl) rfl ?_
  refine tt_op rfl rfl ?_
  refine tt_op rfl rfl ?_
  refine tt_put rfl (xup_s) rfl (by decide) (by rfl) (by rfl) rfl ?_
  refine tt_return rfl rfl (Nat.le_of_ble_eq_true rfl) (Nat.le_of_ble_eq_true rfl) ?_
  refine ⟨rfl, rfl, ?_⟩
  rw [xup_xup, xup_xup, xup_xup]
  rfl
/-- which sides points lie on (bit 0 below, bit 1 above), and those in the plane -/
def sdR (P : Nat → V3) (d : V3) (lv : Int) : Nat → Nat → Nat → Nat → Nat × Nat
  | 0, _, s, w => (s, w)
  | k + 1, i, s, w => if s = 3 then (s, w) else if dot d (P i) - lv = 0 then sdR P d lv k (i + 1) s (w ||| 2 ^ i) else sdR P d lv k (i + 1) (s ||| (if dot d (P i) - lv < 0 then 1 else 2)) w
theorem or_lt4 : ∀ s, s < 4 → s ||| 1 < 4 ∧ s ||| 2 < 4 := by decide
set_option maxRecDepth 10000 in
set_option maxHeartbeats 1000000 in
theorem c_sides_loop (H : xCl h m P) (q : Nat) (hq5 : 5 ≤ q) (d : V3) (lv : Int) (me le rw : Nat) (hd : vbd 3200 d) (hlv : -1000000 ≤ lv ∧ lv ≤ 1000000) : ∀ (k i s w : Nat) (l3 : Option Value), i + k = m → s < 4 → xT xmX3_sidesTaken (3, 0, 0, 0, 0) 4 [some (.ref q), some (zI s), some (zI i), l3, none] [] n (xup h q (oC d lv w me le rw)) (fun r n' h' => r = some (zI (sdR P d lv k i s w).1) ∧ n' = n ∧ h' = xup h q (oC d lv (sdR P d lv k i s w).2 me le rw)) := by
  have hm := H.2.2.2.2.1
  have hb := H.2.2.2.2.2
  intro k
  induction k with
  | zero =>
    intro i s w l3 hi hs
    have hq := (xup_s : xup h q (oC d lv w me le rw) q = _)
    have h1 := (xCl_up (e := oC d lv w me le rw) hq5 H).1
    refine tt_op rfl rfl ?_
    refine tt_op rfl rfl ?_
    refine tt_get rfl (by assumption) (by rfl) ?_
    refine tt_get rfl (by assumption) (by rfl) ?_
    refine z_icmp rfl (by first | assumption | (unfold R3; omega)) (by first | assumption | (unfold R3; omega)) (fun c => ?_) (fun c => absurd (by simp only [zcd] <;> omega) c)
    refine tt_op rfl rfl ?_
    refine tt_ireturn rfl rfl (by rfl) (Nat.le_of_ble_eq_true rfl) (Nat.le_of_ble_eq_true rfl) ?_
    exact ⟨rfl, rfl, rfl⟩
  | succ k ih =>
    intro i s w l3 hi hs
    have hq := (xup_s : xup h q (oC d lv w me le rw) q = _)
    have H1 := xCl_up (e := oC d lv w me le rw) hq5 H
    have h1 := H1.1
    unfold sdR
    refine tt_op rfl rfl ?_
    refine tt_op rfl rfl ?_
    refine tt_get rfl (by assumption) (by rfl) ?_
    refine tt_get rfl (by assumption) (by rfl) ?_
    refine z_icmp rfl (by first | assumption | (unfold R3; omega)) (by first | assumption | (unfold R3; omega)) (fun c => absurd c (by simp only [zcd] <;> omega)) (fun c => ?_)
    refine tt_op rfl rfl ?_
    refine tt_op rfl rfl ?_
    refine z_icmp rfl (by first | assumption | (unfold R3; omega)) (by first | assumption | (unfold R3; omega)) (fun c1 => ?_) (fun c1 => ?_)
    · simp only [zcd] at c1
      rw [if_pos (by omega)]
      refine tt_op rfl rfl ?_
      refine tt_ireturn rfl rfl (by rfl) (Nat.le_of_ble_eq_true rfl) (Nat.le_of_ble_eq_true rfl) ?_
      exact ⟨rfl, rfl, rfl⟩
    simp only [zcd] at c1
    rw [if_neg (by omega)]
    refine tt_op rfl rfl ?_
    refine tt_get rfl (by assumption) (by rfl) ?_
    refine tt_op rfl rfl ?_
    refine tt_op rfl rfl ?_
    refine tt_get rfl (by assumption) (by rfl) ?_
    refine tt_op rfl rfl ?_
    refine tt_get rfl (by assumption) (by rfl) ?_
    refine tt_op rfl rfl ?_
    refine tt_get rfl (by assumption) (by rfl) ?_
    refine tt_pV rfl rfl rfl h1 rfl (c_sum H1 i (by omega) _ _ _) ?_
    refine tt_op rfl rfl ?_
    refine tt_get rfl (by assumption) (by rfl) ?_
    refine z_lsub rfl ?_
    refine tt_op rfl rfl ?_
    refine tt_op rfl rfl ?_
    refine tt_op rfl rfl ?_
    have hdt := dot_bd hd (hb i (by omega))
    have hR : R6 (dot d (P i) - lv) := by unfold R6; omega
    refine z_lif rfl rfl hR ⟨by decide, by decide⟩ (fun c2 => ?_) (fun c2 => ?_)
    · have c2 : ¬ dot d (P i) - lv = 0 := c2
      rw [if_neg c2]
      refine tt_op rfl rfl ?_
      refine tt_op rfl rfl ?_
      refine tt_op rfl rfl ?_
      refine z_lif rfl rfl hR ⟨by decide, by decide⟩ (fun c3 => ?_) (fun c3 => ?_)
      · have c3 : 0 ≤ dot d (P i) - lv := c3
        rw [if_neg (by omega)]
        refine tt_op rfl rfl ?_
        refine z_ior (w := 2) rfl ?_
        refine tt_op rfl rfl ?_
        refine z_iinc rfl rfl rfl ?_
        refine tt_goto rfl ?_
        exact ih (i + 1) (s ||| 2) w _ (by omega) (or_lt4 s hs).2
      · have c3 : ¬ 0 ≤ dot d (P i) - lv := c3
        rw [if_pos (by omega)]
        refine tt_op rfl rfl ?_
        refine tt_goto rfl ?_
        refine z_ior (w := 1) rfl ?_
        refine tt_op rfl rfl ?_
        refine z_iinc rfl rfl rfl ?_
        refine tt_goto rfl ?_
        exact ih (i + 1) (s ||| 1) w _ (by omega) (or_lt4 s hs).1
    · have c2 : ¬ dot d (P i) - lv ≠ 0 := c2
      rw [if_pos (by omega)]
      refine tt_op rfl rfl ?_
      refine tt_op rfl rfl ?_
      refine tt_get rfl (by assumption) (by rfl) ?_
      refine tt_op rfl rfl ?_
      refine tt_op rfl rfl ?_
      refine z_shl1 rfl (by omega) ?_
      refine z_ior rfl ?_
      refine tt_put rfl (hq) rfl (by decide) (by rfl) (by rfl) rfl ?_
      refine tt_goto rfl ?_
      rw [xup_xup]
      refine z_iinc rfl rfl rfl ?_
      refine tt_goto rfl ?_
      exact ih (i + 1) s (w ||| 2 ^ i) _ (by omega) hs
set_option maxRecDepth 10000 in
theorem c_sides (H : xCl h m P) (q : Nat) (hq5 : 5 ≤ q) (d : V3) (lv : Int) (se me le rw : Nat) (hd : vbd 3200 d) (hlv : -1000000 ≤ lv ∧ lv ≤ 1000000) (hq : h q = some (oC d lv se me le rw)) : xCall xmX3_sidesTaken 3 0 0 [.ref q] n h (fun r n' h' => r = some (zI (sdR P d lv m 0 0 se).1) ∧ n' = n ∧ h' = xup h q (oC d lv (sdR P d lv m 0 0 se).2 me le rw)) := by
  refine xCall.of xgX3_sidesTaken rfl ?_
  refine tt_op rfl rfl ?_
  refine tt_op rfl rfl ?_
  refine tt_op rfl rfl ?_
  refine tt_op rfl rfl ?_
  have := c_sides_loop (n := n) H q hq5 d lv me le rw hd hlv m 0 0 se none (by omega) (by decide)
  rw [xup_same hq] at this
  exact this
def vneg (d : V3) : V3 := (-d.1, -d.2.1, -d.2.2)
set_option maxRecDepth 10000 in
theorem c_outw (q s : Nat) (hs : s < 4) (d : V3) (lv : Int) (se me le rw : Nat) (hq : h q = some (oC d lv se me le rw)) : xCall xmX3_turnOutward 3 0 0 [.ref q, zI s] n h (fun r n' h' => r = some (zI (if s = 1 ∨ s = 2 then 1 else 0)) ∧ n' = n ∧ h' = xup h q (if s = 2 then oC (vneg d) (-lv) se me le rw else oC d lv se me le rw)) := by
  refine xCall.of xgX3_turnOutward rfl ?_
  refine tt_op rfl rfl ?_
  refine tt_op rfl rfl ?_
  refine z_icmp rfl (by first | assumption | (unfold R3; omega)) (by first | assumption | (unfold R3; omega)) (fun c1 => ?_) (fun c1 => ?_)
  · simp only [zcd] at c1
    rw [if_neg (show ¬ s = 2 by omega), xup_same hq]
    refine tt_op rfl rfl ?_
    refine tt_op rfl rfl ?_
    refine z_icmp rfl (by first | assumption | (unfold R3; omega)) (by first | assumption | (unfold R3; omega)) (fun c2 => ?_) (fun c2 => ?_)
    · simp only [zcd] at c2
      rw [if_pos (Or.inl (show s = 1 by omega))]
      refine tt_op rfl rfl ?_
      refine tt_goto rfl ?_
      refine tt_ireturn rfl rfl (by rfl) (Nat.le_of_ble_eq_true rfl) (Nat.le_of_ble_eq_true rfl) ?_
      exact ⟨rfl, rfl, rfl⟩
    · simp only [zcd] at c2
      rw [if_neg (show ¬ (s = 1 ∨ s = 2) by omega)]
      refine tt_op rfl rfl ?_
      refine tt_op rfl rfl ?_
      refine z_icmp rfl (by first | assumption | (unfold R3; omega)) (by first | assumption | (unfold R3; omega)) (fun c => ?_) (fun c => absurd (by simp only [zcd] <;> omega) c)
      refine tt_op rfl rfl ?_
      refine tt_ireturn rfl rfl (by rfl) (Nat.le_of_ble_eq_true rfl) (Nat.le_of_ble_eq_true rfl) ?_
      exact ⟨rfl, rfl, rfl⟩
  · simp only [zcd, ne_eq, Decidable.not_not] at c1
    have hs2 : s = 2 := by omega
    subst hs2
    rw [if_pos rfl, if_pos (Or.inr rfl)]
    refine tt_op rfl rfl ?_
    refine tt_op rfl rfl ?_
    refine tt_get rfl (by assumption) (by rfl) ?_
    refine z_lneg rfl ?_
    refine tt_op rfl rfl ?_
    refine tt_get rfl (by assumption) (by rfl) ?_
    refine z_lneg rfl ?_
    refine tt_op rfl rfl ?_
    refine tt_get rfl (by assumption) (by rfl) ?_
    refine z_lneg rfl ?_
    refine tt_op rfl rfl ?_
    refine tt_get rfl (by assumption) (by rfl) ?_
    refine tt_callV (M' := xmX3_look) rfl rfl rfl hq rfl (c_look q d (vneg d) lv se se me le rw hq) ?_
    rintro r n' h' ⟨rfl, rfl, rfl⟩
    have hq1 := (xup_s : xup h q (oC (vneg d) lv se me le rw) q = _)
    refine tt_op rfl rfl ?_
    refine tt_op rfl rfl ?_
    refine tt_get rfl (by assumption) (by rfl) ?_
    refine z_lneg rfl ?_
    refine tt_put rfl (xup_s) rfl (by decide) (by rfl) (by rfl) rfl ?_
    rw [xup_xup]
    refine tt_op rfl rfl ?_
    refine tt_op rfl rfl ?_
    refine z_icmp rfl (by first | assumption | (unfold R3; omega)) (by first | assumption | (unfold R3; omega)) (fun c => absurd c (by simp only [zcd] <;> omega)) (fun c => ?_)
    refine tt_op rfl rfl ?_
    refine tt_op rfl rfl ?_
    refine z_icmp rfl (by first | assumption | (unfold R3; omega)) (by first | assumption | (unfold R3; omega)) (fun c => absurd c (by simp only [zcd] <;> omega)) (fun c => ?_)
    refine tt_op rfl rfl ?_
    refine tt_goto rfl ?_
    refine tt_ireturn rfl rfl (by rfl) (Nat.le_of_ble_eq_true rfl) (Nat.le_of_ble_eq_true rfl) ?_
    exact ⟨rfl, rfl, rfl⟩
/-- the least seen point, then that which is farthest from it -/
def rmR (P : Nat → V3) (d : V3) (S fr : Nat) : Nat → Nat → Nat → Int → Nat
  | 0, _, b, _ => b
  | k + 1, i, b, w => if S.testBit i = true ∧ w < spr P fr i d then rmR P d S fr k (i + 1) i (spr P fr i d) else rmR P d S fr k (i + 1) b w
def rmF (P : Nat → V3) (d : V3) (S : Nat) : Nat := rmR P d S (tz S) 14 0 (tz S) 0
set_option maxRecDepth 10000 in
set_option maxHeartbeats 1000000 in
theorem c_rim_loop (H : xCl h m P) (q : Nat) (d : V3) (lv : Int) (S me le rw fr : Nat) (hS : S < 16384) (hfr : fr < 14) (hd : vbd 3200 d) (hq : h q = some (oC d lv S me le rw)) : ∀ (k i b : Nat) (w : Int) (l6 : Option Value), i + k = 14 → R6 w → xT xmX3_rim (3, 0, 0, 0, 0) 15 [some (.ref q), some (zI fr), some (zI b), some (zJ w), none, some (zI i), l6, none] [] n h (fun r n' h' => r = some (zI (rmR P d S fr k i b w)) ∧ n' = n ∧ h' = h) := by
  have hb := H.2.2.2.2.2
  have h1 := H.1
  intro k
  induction k with
  | zero =>
    intro i b w l6 hi hw
    refine tt_op rfl rfl ?_
    refine tt_op rfl rfl ?_
    refine z_icmp rfl (by first | assumption | (unfold R3; omega)) (by first | assumption | (unfold R3; omega)) (fun c => ?_) (fun c => absurd (by simp only [zcd] <;> omega) c)
    refine tt_op rfl rfl ?_
    refine tt_ireturn rfl rfl (by rfl) (Nat.le_of_ble_eq_true rfl) (Nat.le_of_ble_eq_true rfl) ?_
    exact ⟨rfl, rfl, rfl⟩
  | succ k ih =>
    intro i b w l6 hi hw
    have hR := spr_bd hb hfr (show i < 14 by omega) hd
    unfold rmR
    generalize hE : (if S.testBit i = true ∧ w < spr P fr i d then rmR P d S fr k (i + 1) i (spr P fr i d) else rmR P d S fr k (i + 1) b w) = E
    refine tt_op rfl rfl ?_
    refine tt_op rfl rfl ?_
    refine z_icmp rfl (by first | assumption | (unfold R3; omega)) (by first | assumption | (unfold R3; omega)) (fun c => absurd c (by simp only [zcd] <;> omega)) (fun c => ?_)
    refine tt_op rfl rfl ?_
    refine tt_get rfl (by assumption) (by rfl) ?_
    refine tt_op rfl rfl ?_
    refine tt_op rfl rfl ?_
    refine tt_op rfl rfl ?_
    refine tt_get rfl (by assumption) (by rfl) ?_
    refine tt_op rfl rfl ?_
    refine tt_get rfl (by assumption) (by rfl) ?_
    refine tt_op rfl rfl ?_
    refine tt_get rfl (by assumption) (by rfl) ?_
    refine tt_pV rfl rfl rfl h1 rfl (c_spread H fr i hfr (by omega) _ _ _) ?_
    refine tt_op rfl rfl ?_
    refine tt_op rfl rfl ?_
    refine tt_get rfl (by assumption) (by rfl) ?_
    refine tt_op rfl rfl ?_
    refine z_tb rfl rfl rfl (by omega) (by omega) ?_
    have nx : ¬ (S.testBit i = true ∧ w < spr P fr i d) → xT xmX3_rim (3, 0, 0, 0, 0) 71 [some (.ref q), some (zI fr), some (zI b), some (zJ w), none, some (zI i), some (zJ (spr P fr i d)), none] [] n h (fun r n' h' => r = some (zI E) ∧ n' = n ∧ h' = h) := by
      intro hne
      rw [← hE, if_neg hne]
      refine z_iinc rfl rfl rfl ?_
      refine tt_goto rfl ?_
      exact ih (i + 1) b w _ (by omega) hw
    refine z_if rfl (by split <;> exact ⟨by decide, by decide⟩) (fun c1 => ?_) (fun c1 => ?_)
    · refine nx (fun z => ?_)
      simp only [zcd, z.1, if_true] at c1
      omega
    · have hbit : S.testBit i = true := by
        cases hx : S.testBit i with
        | true => rfl
        | false => simp [zcd, hx] at c1
      refine tt_op rfl rfl ?_
      refine tt_op rfl rfl ?_
      refine z_lif rfl rfl hR hw (fun c2 => ?_) (fun c2 => ?_)
      · have c2 : spr P fr i d ≤ w := c2
        exact nx (fun z => by omega)
      · have c2 : ¬ spr P fr i d ≤ w := c2
        rw [← hE, if_pos ⟨hbit, by omega⟩]
        refine tt_op rfl rfl ?_
        refine tt_op rfl rfl ?_
        refine tt_op rfl rfl ?_
        refine tt_op rfl rfl ?_
        refine z_iinc rfl rfl rfl ?_
        refine tt_goto rfl ?_
        exact ih (i + 1) i (spr P fr i d) _ (by omega) hR
theorem tz_lt {S : Nat} (hS : S < 16384) (h0 : 0 < S) : tz S < 14 := (tz_low S hS h0).2
set_option maxRecDepth 10000 in
theorem c_rim (H : xCl h m P) (q : Nat) (d : V3) (lv : Int) (S me le rw : Nat) (hS : S < 16384) (h0 : 0 < S) (hd : vbd 3200 d) (hq : h q = some (oC d lv S me le rw)) : xPure xmX3_rim 3 [.ref q] n h (zI (rmF P d S)) := by
  refine xCall.of xgX3_rim rfl ?_
  refine tt_op rfl rfl ?_
  refine tt_get rfl (by assumption) (by rfl) ?_
  refine tt_pS rfl rfl rfl rfl (c_ntz S hS h0 n h) ?_
  refine tt_op rfl rfl ?_
  refine tt_op rfl rfl ?_
  refine tt_op rfl rfl ?_
  refine tt_op rfl rfl ?_
  refine tt_op rfl rfl ?_
  refine tt_op rfl rfl ?_
  refine tt_op rfl rfl ?_
  exact c_rim_loop H q d lv S me le rw (tz S) hS (tz_lt hS h0) hd hq 14 0 (tz S) 0 none rfl ⟨by decide, by decide⟩
/-- the corner behind p -/
def flR (P : Nat → V3) (d : V3) (S p : Nat) : Nat → Nat → Nat → Int → Nat
  | 0, _, q, _ => q
  | k + 1, r, q, w => if S.testBit r = true ∧ spr P p r d ≠ 0 ∧ (w = 0 ∨ swg P p q r d < 0 ∨ (swg P p q r d = 0 ∧ w < spr P p r d)) then flR P d S p k (r + 1) r (spr P p r d) else flR P d S p k (r + 1) q w
def flF (P : Nat → V3) (d : V3) (S p : Nat) : Nat := flR P d S p 14 0 p 0
theorem flR_lt {P : Nat → V3} {d : V3} {S p : Nat} : ∀ (k r q : Nat) (w : Int), r + k = 14 → q < 14 → flR P d S p k r q w < 14
  | 0, r, q, w, hr, hq => hq
  | k + 1, r, q, w, hr, hq => by
    unfold flR
    split
    · exact flR_lt k (r + 1) r _ (by omega) (by omega)
    · exact flR_lt k (r + 1) q w (by omega) hq
set_option maxRecDepth 10000 in
set_option maxHeartbeats 1000000 in
theorem c_fol_loop (H : xCl h m P) (o : Nat) (d : V3) (lv : Int) (S me le rw p : Nat) (hS : S < 16384) (hp : p < 14) (hd : vbd 3200 d) (ho : h o = some (oC d lv S me le rw)) : ∀ (k r q : Nat) (w : Int) (l6 l8 : Option Value), r + k = 14 → q < 14 → R6 w → xT xmX3_following (3, 0, 0, 0, 0) 7 [some (.ref o), some (zI p), some (zI q), some (zJ w), none, some (zI r), l6, none, l8, none] [] n h (fun r' n' h' => r' = some (zI (flR P d S p k r q w)) ∧ n' = n ∧ h' = h) := by
  have hb := H.2.2.2.2.2
  have h1 := H.1
  intro k
  induction k with
  | zero =>
    intro r q w l6 l8 hr hq hw
    refine tt_op rfl rfl ?_
    refine tt_op rfl rfl ?_
    refine z_icmp rfl (by first | assumption | (unfold R3; omega)) (by first | assumption | (unfold R3; omega)) (fun c => ?_) (fun c => absurd (by simp only [zcd] <;> omega) c)
    refine tt_op rfl rfl ?_
    refine tt_ireturn rfl rfl (by rfl) (Nat.le_of_ble_eq_true rfl) (Nat.le_of_ble_eq_true rfl) ?_
    exact ⟨rfl, rfl, rfl⟩
  | succ k ih =>
    intro r q w l6 l8 hr hq hw
    have hR := spr_bd hb hp (show r < 14 by omega) hd
    have hW := swg_bd hb hp hq (show r < 14 by omega) hd
    have R0 : R6 0 := ⟨by decide, by decide⟩
    unfold flR
    generalize hE : (if S.testBit r = true ∧ spr P p r d ≠ 0 ∧ (w = 0 ∨ swg P p q r d < 0 ∨ (swg P p q r d = 0 ∧ w < spr P p r d)) then flR P d S p k (r + 1) r (spr P p r d) else flR P d S p k (r + 1) q w) = E
    refine tt_op rfl rfl ?_
    refine tt_op rfl rfl ?_
    refine z_icmp rfl (by first | assumption | (unfold R3; omega)) (by first | assumption | (unfold R3; omega)) (fun c => absurd c (by simp only [zcd] <;> omega)) (fun c => ?_)
    refine tt_op rfl rfl ?_
    refine tt_get rfl (by assumption) (by rfl) ?_
    refine tt_op rfl rfl ?_
    refine tt_op rfl rfl ?_
    refine tt_op rfl rfl ?_
    refine tt_get rfl (by assumption) (by rfl) ?_
    refine tt_op rfl rfl ?_
    refine tt_get rfl (by assumption) (by rfl) ?_
    refine tt_op rfl rfl ?_
    refine tt_get rfl (by assumption) (by rfl) ?_
    refine tt_pV rfl rfl rfl h1 rfl (c_spread H p r hp (by omega) _ _ _) ?_
    refine tt_op rfl rfl ?_
    refine tt_op rfl rfl ?_
    refine tt_get rfl (by assumption) (by rfl) ?_
    refine tt_op rfl rfl ?_
    refine z_tb rfl rfl rfl (by omega) (by omega) ?_
    have nx : ∀ l8', E = flR P d S p k (r + 1) q w → xT xmX3_following (3, 0, 0, 0, 0) 118 [some (.ref o), some (zI p), some (zI q), some (zJ w), none, some (zI r), some (zJ (spr P p r d)), none, l8', none] [] n h (fun r' n' h' => r' = some (zI E) ∧ n' = n ∧ h' = h) := by
      intro l8' hne
      rw [hne]
      refine z_iinc rfl rfl rfl ?_
      refine tt_goto rfl ?_
      exact ih (r + 1) q w _ _ (by omega) hq hw
    refine z_if rfl (by split <;> exact ⟨by decide, by decide⟩) (fun c1 => ?_) (fun c1 => ?_)
    · refine nx _ ?_
      rw [← hE, if_neg (fun z => ?_)]
      simp only [zcd, z.1, if_true] at c1
      omega
    have hbit : S.testBit r = true := by
      cases hx : S.testBit r with
      | true => rfl
      | false => simp [zcd, hx] at c1
    refine tt_op rfl rfl ?_
    refine tt_op rfl rfl ?_
    refine z_lif rfl rfl hR R0 (fun c2 => ?_) (fun c2 => ?_)
    rotate_left
    · have c2 : ¬ spr P p r d ≠ 0 := c2
      refine tt_goto rfl ?_
      exact nx _ (by rw [← hE, if_neg (fun z => c2 z.2.1)])
    have c2 : spr P p r d ≠ 0 := c2
    refine tt_op rfl rfl ?_
    refine tt_get rfl (by assumption) (by rfl) ?_
    refine tt_op rfl rfl ?_
    refine tt_op rfl rfl ?_
    refine tt_op rfl rfl ?_
    refine tt_op rfl rfl ?_
    refine tt_get rfl (by assumption) (by rfl) ?_
    refine tt_op rfl rfl ?_
    refine tt_get rfl (by assumption) (by rfl) ?_
    refine tt_op rfl rfl ?_
    refine tt_get rfl (by assumption) (by rfl) ?_
    refine tt_pV rfl rfl rfl h1 rfl (c_swing H p q r hp hq (by omega) _ _ _) ?_
    refine tt_op rfl rfl ?_
    refine tt_op rfl rfl ?_
    refine tt_op rfl rfl ?_
    have tk : (w = 0 ∨ swg P p q r d < 0 ∨ (swg P p q r d = 0 ∧ w < spr P p r d)) → xT xmX3_following (3, 0, 0, 0, 0) 112 [some (.ref o), some (zI p), some (zI q), some (zJ w), none, some (zI r), some (zJ (spr P p r d)), none, some (zJ (swg P p q r d)), none] [] n h (fun r' n' h' => r' = some (zI E) ∧ n' = n ∧ h' = h) := by
      intro hyes
      rw [← hE, if_pos ⟨hbit, c2, hyes⟩]
      refine tt_op rfl rfl ?_
      refine tt_op rfl rfl ?_
      refine tt_op rfl rfl ?_
      refine tt_op rfl rfl ?_
      refine z_iinc rfl rfl rfl ?_
      refine tt_goto rfl ?_
      exact ih (r + 1) r (spr P p r d) _ _ (by omega) (by omega) hR
    refine z_lif rfl rfl hw R0 (fun c3 => tk (Or.inl c3)) (fun c3 => ?_)
    have c3 : ¬ w = 0 := c3
    refine tt_op rfl rfl ?_
    refine tt_op rfl rfl ?_
    refine z_lif rfl rfl hW R0 (fun c4 => tk (Or.inr (Or.inl c4))) (fun c4 => ?_)
    have c4 : ¬ swg P p q r d < 0 := c4
    refine tt_op rfl rfl ?_
    refine tt_op rfl rfl ?_
    refine z_lif rfl rfl hW R0 (fun c5 => ?_) (fun c5 => ?_)
    · have c5 : swg P p q r d ≠ 0 := c5
      exact nx _ (by rw [← hE, if_neg (fun z => by omega)])
    have c5 : ¬ swg P p q r d ≠ 0 := c5
    refine tt_op rfl rfl ?_
    refine tt_op rfl rfl ?_
    refine z_lif rfl rfl hR hw (fun c6 => ?_) (fun c6 => ?_)
    · have c6 : spr P p r d ≤ w := c6
      exact nx _ (by rw [← hE, if_neg (fun z => by omega)])
    · have c6 : ¬ spr P p r d ≤ w := c6
      exact tk (Or.inr (Or.inr ⟨by omega, by omega⟩))
set_option maxRecDepth 10000 in
theorem c_following (H : xCl h m P) (o : Nat) (d : V3) (lv : Int) (S me le rw p : Nat) (hS : S < 16384) (hp : p < 14) (hd : vbd 3200 d) (ho : h o = some (oC d lv S me le rw)) : xPure xmX3_following 3 [.ref o, zI p] n h (zI (flF P d S p)) := by
  refine xCall.of xgX3_following rfl ?_
  refine tt_op rfl rfl ?_
  refine tt_op rfl rfl ?_
  refine tt_op rfl rfl ?_
  refine tt_op rfl rfl ?_
  refine tt_op rfl rfl ?_
  refine tt_op rfl rfl ?_
  exact c_fol_loop H o d lv S me le rw p hS hp hd ho 14 0 p 0 none none rfl hp ⟨by decide, by decide⟩
theorem flF_lt {P : Nat → V3} {d : V3} {S p : Nat} (hp : p < 14) : flF P d S p < 14 := flR_lt 14 0 p 0 rfl hp
/-- the row round by the left: row, those met, how many -/
def trR (P : Nat → V3) (d : V3) (S st : Nat) : Nat → Nat → Nat → (Nat → Int) → Nat → (Nat → Int) × Nat × Nat
  | 0, s, _, row, me => (row, me, s)
  | k + 1, s, p, row, me => if spr P st (flF P d S p) d = 0 then (zup row s p, me ||| 2 ^ p, s + 1) else trR P d S st k (s + 1) (flF P d S p) (zup row s p) (me ||| 2 ^ p)
set_option maxRecDepth 10000 in
set_option maxHeartbeats 1000000 in
theorem c_trace_loop (H : xCl h m P) (o : Nat) (ho5 : 5 ≤ o) (d : V3) (lv : Int) (S rw st : Nat) (hrw : 5 ≤ rw) (hne : rw ≠ o) (hS : S < 16384) (hst : st < 14) (hd : vbd 3200 d) : ∀ (k s p le : Nat) (row : Nat → Int) (me : Nat), s + k = 14 → p < 14 → (k = 0 → le = s) → xT xmX3_trace (4, 0, 0, 0, 0) 14 [some (.ref o), some (zI st), some (zI p), some (zI s)] [] n (xup (xup h rw (zA 14 row)) o (oC d lv S me le rw)) (fun r n' h' => r = none ∧ n' = n ∧ h' = xup (xup h rw (zA 14 (trR P d S st k s p row me).1)) o (oC d lv S (trR P d S st k s p row me).2.1 (trR P d S st k s p row me).2.2 rw)) := by
  have hb := H.2.2.2.2.2
  intro k
  induction k with
  | zero =>
    intro s p le row me hs hp hle
    refine tt_op rfl rfl ?_
    refine tt_op rfl rfl ?_
    refine z_icmp rfl (by first | assumption | (unfold R3; omega)) (by first | assumption | (unfold R3; omega)) (fun c => ?_) (fun c => absurd (by simp only [zcd] <;> omega) c)
    refine tt_return rfl rfl (Nat.le_of_ble_eq_true rfl) (Nat.le_of_ble_eq_true rfl) ?_
    refine ⟨rfl, rfl, ?_⟩
    rw [hle rfl]
    rfl
  | succ k ih =>
    intro s p le row me hs hp hle
    have hO := (xup_s : xup (xup h rw (zA 14 row)) o (oC d lv S me le rw) o = _)
    have hRw : xup (xup h rw (zA 14 row)) o (oC d lv S me le rw) rw = some (zA 14 row) := by rw [xup_n hne]; exact xup_s
    unfold trR
    refine tt_op rfl rfl ?_
    refine tt_op rfl rfl ?_
    refine z_icmp rfl (by first | assumption | (unfold R3; omega)) (by first | assumption | (unfold R3; omega)) (fun c => absurd c (by simp only [zcd] <;> omega)) (fun c => ?_)
    refine tt_op rfl rfl ?_
    refine tt_get rfl (by assumption) (by rfl) ?_
    refine tt_op rfl rfl ?_
    refine tt_op rfl rfl ?_
    refine z_iast rfl hRw rfl (by omega) (by decide) ?_
    have hO := (show xup (xup (xup h rw (zA 14 row)) o (oC d lv S me le rw)) rw (zA 14 (zup row s p)) o = some (oC d lv S me le rw) by rw [xup_n (Ne.symm hne)]; exact xup_s)
    refine tt_op rfl rfl ?_
    refine tt_op rfl rfl ?_
    refine tt_get rfl (by assumption) (by rfl) ?_
    refine tt_op rfl rfl ?_
    refine tt_op rfl rfl ?_
    refine z_shl1 rfl (by omega) ?_
    refine z_ior rfl ?_
    refine tt_put rfl (hO) rfl (by decide) (by rfl) (by rfl) rfl ?_
    refine tt_op rfl rfl ?_
    refine tt_op rfl rfl ?_
    refine tt_op rfl rfl ?_
    refine z_iadd rfl ?_
    refine tt_put rfl (xup_s) rfl (by decide) (by rfl) (by rfl) rfl ?_
    rw [xup_xup, xup_comm (Ne.symm hne), xup_xup, xup_xup]
    have H1 : xCl (xup (xup h rw (zA 14 (zup row s p))) o (oC d lv S (me ||| 2 ^ p) (s + 1) rw)) m P := xCl_up ho5 (xCl_up hrw H)
    have h1 := H1.1
    have hO := (xup_s : xup (xup h rw (zA 14 (zup row s p))) o (oC d lv S (me ||| 2 ^ p) (s + 1) rw) o = _)
    refine tt_op rfl rfl ?_
    refine tt_op rfl rfl ?_
    refine tt_pV rfl rfl rfl hO rfl (c_following H1 o d lv S _ _ rw p hS hp hd hO) ?_
    refine tt_op rfl rfl ?_
    refine tt_op rfl rfl ?_
    refine tt_get rfl (by assumption) (by rfl) ?_
    refine tt_op rfl rfl ?_
    refine tt_op rfl rfl ?_
    refine tt_op rfl rfl ?_
    refine tt_get rfl (by assumption) (by rfl) ?_
    refine tt_op rfl rfl ?_
    refine tt_get rfl (by assumption) (by rfl) ?_
    refine tt_op rfl rfl ?_
    refine tt_get rfl (by assumption) (by rfl) ?_
    refine tt_pV rfl rfl rfl h1 rfl (c_spread H1 st (flF P d S p) hst (flF_lt hp) _ _ _) ?_
    refine tt_op rfl rfl ?_
    refine z_lif rfl rfl (spr_bd hb hst (flF_lt hp) hd) ⟨by decide, by decide⟩ (fun c => ?_) (fun c => ?_)
    · have c : spr P st (flF P d S p) d ≠ 0 := c
      rw [if_neg c]
      refine z_iinc rfl rfl rfl ?_
      refine tt_goto rfl ?_
      exact ih (s + 1) (flF P d S p) (s + 1) _ _ (by omega) (flF_lt hp) (fun _ => rfl)
    · have c : ¬ spr P st (flF P d S p) d ≠ 0 := c
      rw [if_pos (by omega)]
      refine tt_return rfl rfl (Nat.le_of_ble_eq_true rfl) (Nat.le_of_ble_eq_true rfl) ?_
      exact ⟨rfl, rfl, rfl⟩
set_option maxRecDepth 10000 in
theorem c_trace (H : xCl h m P) (o : Nat) (ho5 : 5 ≤ o) (d : V3) (lv : Int) (S me0 le0 rw st : Nat) (row : Nat → Int) (hrw : 5 ≤ rw) (hne : rw ≠ o) (hS : S < 16384) (hst : st < 14) (hd : vbd 3200 d) (ho : h o = some (oC d lv S me0 le0 rw)) (hrow : h rw = some (zA 14 row)) : xCall xmX3_trace 4 0 0 [.ref o, zI st] n h (fun r n' h' => r = none ∧ n' = n ∧ h' = xup (xup h rw (zA 14 (trR P d S st 14 0 st row 0).1)) o (oC d lv S (trR P d S st 14 0 st row 0).2.1 (trR P d S st 14 0 st row 0).2.2 rw)) := by
  refine xCall.of xgX3_trace rfl ?_
  refine tt_op rfl rfl ?_
  refine tt_op rfl rfl ?_
  refine tt_put rfl (ho) rfl (by decide) (by rfl) (by rfl) rfl ?_
  refine tt_op rfl rfl ?_
  refine tt_op rfl rfl ?_
  refine tt_put rfl (xup_s) rfl (by decide) (by rfl) (by rfl) rfl ?_
  rw [xup_xup]
  refine tt_op rfl rfl ?_
  refine tt_op rfl rfl ?_
  refine tt_op rfl rfl ?_
  refine tt_op rfl rfl ?_
  have := c_trace_loop (n := n) H o ho5 d lv S rw st hrw hne hS hst hd 14 0 st 0 row 0 rfl hst (fun q => absurd q (by decide))
  rw [xup_same hrow] at this
  exact this
/-- which row comes first -/
def ldR (ra rb : Nat → Int) (la lb : Nat) : Nat → Nat → Bool
  | 0, _ => decide (la < lb)
  | f + 1, k => if la ≤ k ∨ lb ≤ k then decide (la < lb) else if ra k = rb k then ldR ra rb la lb f (k + 1) else decide (ra k < rb k)
set_option maxRecDepth 10000 in
set_option maxHeartbeats 1000000 in
theorem c_leads_loop (o o2 : Nat) (d d2 : V3) (lv lv2 : Int) (S S2 me me2 la lb rw rw2 : Nat) (ra rb : Nat → Int) (hla : la ≤ 14) (hlb : lb ≤ 14) (hRa : ∀ k, k < 14 → R3 (ra k)) (hRb : ∀ k, k < 14 → R3 (rb k)) (ho : h o = some (oC d lv S me la rw)) (ho2 : h o2 = some (oC d2 lv2 S2 me2 lb rw2)) (hr : h rw = some (zA 14 ra)) (hr2 : h rw2 = some (zA 14 rb)) : ∀ (f k : Nat), k + f = 14 → xT xmX3_leads (1, 0, 0, 0, 0) 2 [some (.ref o), some (.ref o2), some (zI k)] [] n h (fun r n' h' => r = some (zI (if ldR ra rb la lb f k = true then 1 else 0)) ∧ n' = n ∧ h' = h) := by
  have fin : ∀ k, xT xmX3_leads (1, 0, 0, 0, 0) 66 [some (.ref o), some (.ref o2), some (zI k)] [] n h (fun r n' h' => r = some (zI (if decide (la < lb) = true then 1 else 0)) ∧ n' = n ∧ h' = h) := by
    intro k
    refine tt_op rfl rfl ?_
    refine tt_get rfl (by assumption) (by rfl) ?_
    refine tt_op rfl rfl ?_
    refine tt_get rfl (by assumption) (by rfl) ?_
    refine z_icmp rfl (by first | assumption | (unfold R3; omega)) (by first | assumption | (unfold R3; omega)) (fun c => ?_) (fun c => ?_)
    · simp only [zcd] at c
      rw [if_neg (by simp; omega)]
      refine tt_op rfl rfl ?_
      refine tt_ireturn rfl rfl (by rfl) (Nat.le_of_ble_eq_true rfl) (Nat.le_of_ble_eq_true rfl) ?_
      exact ⟨rfl, rfl, rfl⟩
    · simp only [zcd] at c
      rw [if_pos (by simp; omega)]
      refine tt_op rfl rfl ?_
      refine tt_goto rfl ?_
      refine tt_ireturn rfl rfl (by rfl) (Nat.le_of_ble_eq_true rfl) (Nat.le_of_ble_eq_true rfl) ?_
      exact ⟨rfl, rfl, rfl⟩
  intro f
  induction f with
  | zero =>
    intro k hk
    refine tt_op rfl rfl ?_
    refine tt_op rfl rfl ?_
    refine tt_get rfl (by assumption) (by rfl) ?_
    refine z_icmp rfl (by first | assumption | (unfold R3; omega)) (by first | assumption | (unfold R3; omega)) (fun c1 => ?_) (fun c1 => ?_)
    · exact fin k
    refine tt_op rfl rfl ?_
    refine tt_op rfl rfl ?_
    refine tt_get rfl (by assumption) (by rfl) ?_
    refine z_icmp rfl (by first | assumption | (unfold R3; omega)) (by first | assumption | (unfold R3; omega)) (fun c2 => ?_) (fun c2 => ?_)
    · exact fin k
    refine tt_op rfl rfl ?_
    refine tt_op rfl rfl ?_
    refine z_icmp rfl (by first | assumption | (unfold R3; omega)) (by first | assumption | (unfold R3; omega)) (fun c => ?_) (fun c => absurd (by simp only [zcd] <;> omega) c)
    exact fin k
  | succ f ih =>
    intro k hk
    unfold ldR
    refine tt_op rfl rfl ?_
    refine tt_op rfl rfl ?_
    refine tt_get rfl (by assumption) (by rfl) ?_
    refine z_icmp rfl (by first | assumption | (unfold R3; omega)) (by first | assumption | (unfold R3; omega)) (fun c1 => ?_) (fun c1 => ?_)
    · simp only [zcd] at c1
      rw [if_pos (Or.inl (by omega))]
      exact fin k
    simp only [zcd] at c1
    refine tt_op rfl rfl ?_
    refine tt_op rfl rfl ?_
    refine tt_get rfl (by assumption) (by rfl) ?_
    refine z_icmp rfl (by first | assumption | (unfold R3; omega)) (by first | assumption | (unfold R3; omega)) (fun c2 => ?_) (fun c2 => ?_)
    · simp only [zcd] at c2
      rw [if_pos (Or.inr (by omega))]
      exact fin k
    simp only [zcd] at c2
    rw [if_neg (show ¬ (la ≤ k ∨ lb ≤ k) by omega)]
    refine tt_op rfl rfl ?_
    refine tt_op rfl rfl ?_
    refine z_icmp rfl (by first | assumption | (unfold R3; omega)) (by first | assumption | (unfold R3; omega)) (fun c => absurd c (by simp only [zcd] <;> omega)) (fun c => ?_)
    refine tt_op rfl rfl ?_
    refine tt_get rfl (by assumption) (by rfl) ?_
    refine tt_op rfl rfl ?_
    refine z_iald rfl (by assumption) rfl (by omega) (by decide) ?_
    refine tt_op rfl rfl ?_
    refine tt_get rfl (by assumption) (by rfl) ?_
    refine tt_op rfl rfl ?_
    refine z_iald rfl (by assumption) rfl (by omega) (by decide) ?_
    refine z_icmp rfl (hRa k (by omega)) (hRb k (by omega)) (fun c3 => ?_) (fun c3 => ?_)
    · have c3 : ra k = rb k := c3
      rw [if_pos c3]
      refine z_iinc rfl rfl rfl ?_
      refine tt_goto rfl ?_
      exact ih (k + 1) (by omega)
    · have c3 : ¬ ra k = rb k := c3
      rw [if_neg c3]
      refine tt_op rfl rfl ?_
      refine tt_get rfl (by assumption) (by rfl) ?_
      refine tt_op rfl rfl ?_
      refine z_iald rfl (by assumption) rfl (by omega) (by decide) ?_
      refine tt_op rfl rfl ?_
      refine tt_get rfl (by assumption) (by rfl) ?_
      refine tt_op rfl rfl ?_
      refine z_iald rfl (by assumption) rfl (by omega) (by decide) ?_
      refine z_icmp rfl (hRa k (by omega)) (hRb k (by omega)) (fun c4 => ?_) (fun c4 => ?_)
      · have c4 : rb k ≤ ra k := c4
        rw [if_neg (by simp; omega)]
        refine tt_op rfl rfl ?_
        refine tt_ireturn rfl rfl (by rfl) (Nat.le_of_ble_eq_true rfl) (Nat.le_of_ble_eq_true rfl) ?_
        exact ⟨rfl, rfl, rfl⟩
      · have c4 : ¬ rb k ≤ ra k := c4
        rw [if_pos (by simp; omega)]
        refine tt_op rfl rfl ?_
        refine tt_goto rfl ?_
        refine tt_ireturn rfl rfl (by rfl) (Nat.le_of_ble_eq_true rfl) (Nat.le_of_ble_eq_true rfl) ?_
        exact ⟨rfl, rfl, rfl⟩
set_option maxRecDepth 10000 in
theorem c_leads (o o2 : Nat) (d d2 : V3) (lv lv2 : Int) (S S2 me me2 la lb rw rw2 : Nat) (ra rb : Nat → Int) (hla : la ≤ 14) (hlb : lb ≤ 14) (hRa : ∀ k, k < 14 → R3 (ra k)) (hRb : ∀ k, k < 14 → R3 (rb k)) (ho : h o = some (oC d lv S me la rw)) (ho2 : h o2 = some (oC d2 lv2 S2 me2 lb rw2)) (hr : h rw = some (zA 14 ra)) (hr2 : h rw2 = some (zA 14 rb)) : xPure xmX3_leads 1 [.ref o, .ref o2] n h (zI (if ldR ra rb la lb 14 0 = true then 1 else 0)) := by
  refine xCall.of xgX3_leads rfl ?_
  refine tt_op rfl rfl ?_
  refine tt_op rfl rfl ?_
  exact c_leads_loop o o2 d d2 lv lv2 S S2 me me2 la lb rw rw2 ra rb hla hlb hRa hRb ho ho2 hr hr2 14 0 rfl
/-- the plane of three points -/
def nrm (P : Nat → V3) (p q r : Nat) : V3 := (swg P p q r (1, 0, 0), swg P p q r (0, 1, 0), swg P p q r (0, 0, 1))
def gcd3 (u : V3) : Nat := Int.gcd (Int.gcd u.1 u.2.1 : Int) u.2.2
def prim (u : V3) : V3 := (u.1.tdiv (gcd3 u), u.2.1.tdiv (gcd3 u), u.2.2.tdiv (gcd3 u))
theorem gcd_le (x y : Int) : Int.gcd x y ≤ x.natAbs + y.natAbs := by
  show Nat.gcd x.natAbs y.natAbs ≤ _
  rcases Nat.eq_zero_or_pos x.natAbs with q | q
  · rw [q, Nat.gcd_zero_left]; omega
  · have := Nat.gcd_le_left y.natAbs q; omega
theorem nrm_bd {P : Nat → V3} {p q r : Nat} (hb : pbd P) (hp : p < 14) (hq : q < 14) (hr : r < 14) : vbd 3200 (nrm P p q r) := by
  have h := vbd_cr (vbd_sub (hb q hq) (hb p hp)) (vbd_sub (hb r hr) (hb p hp))
  unfold vbd at h
  unfold vbd nrm swg dot
  dsimp only
  omega
theorem tdiv_bd {x : Int} {g : Nat} (hx : -3200 ≤ x ∧ x ≤ 3200) : -3200 ≤ x.tdiv g ∧ x.tdiv g ≤ 3200 := by
  have h : (x.tdiv g).natAbs ≤ x.natAbs := by rw [Int.natAbs_tdiv]; exact Nat.div_le_self _ _
  omega
theorem prim_bd {u : V3} (h : vbd 3200 u) : vbd 3200 (prim u) := by
  obtain ⟨h1, h2, h3⟩ := h
  exact ⟨tdiv_bd h1, tdiv_bd h2, tdiv_bd h3⟩
theorem sdR_lt (P : Nat → V3) (d : V3) (lv : Int) : ∀ (k i s w : Nat), s < 4 → (sdR P d lv k i s w).1 < 4
  | 0, i, s, w, hs => hs
  | k + 1, i, s, w, hs => by
    unfold sdR
    split
    · exact hs
    · split
      · exact sdR_lt P d lv k (i + 1) s _ hs
      · refine sdR_lt P d lv k (i + 1) _ w ?_
        split
        · exact (or_lt4 s hs).1
        · exact (or_lt4 s hs).2
/-- what looking at three points' plane gives: whether a face lies in it, its normal, its level, its points -/
def fcS (P : Nat → V3) (m p q r : Nat) : Nat × Nat := sdR P (prim (nrm P p q r)) (dot (prim (nrm P p q r)) (P p)) m 0 0 0
def fcD (P : Nat → V3) (m p q r : Nat) : V3 := if (fcS P m p q r).1 = 2 then vneg (prim (nrm P p q r)) else prim (nrm P p q r)
def fcL (P : Nat → V3) (m p q r : Nat) : Int := if (fcS P m p q r).1 = 2 then -dot (prim (nrm P p q r)) (P p) else dot (prim (nrm P p q r)) (P p)
def fcOk (P : Nat → V3) (m p q r : Nat) : Prop := gcd3 (nrm P p q r) ≠ 0 ∧ ((fcS P m p q r).1 = 1 ∨ (fcS P m p q r).1 = 2)
set_option maxRecDepth 10000 in
set_option maxHeartbeats 1000000 in
theorem c_face (H : xCl h m P) (o : Nat) (ho5 : 5 ≤ o) (p q r : Nat) (hp : p < 14) (hq : q < 14) (hr : r < 14) (d0 : V3) (lv0 : Int) (se0 me le rw : Nat) (ho : h o = some (oC d0 lv0 se0 me le rw)) : xCall xmX3_face 5 0 0 [.ref o, zI p, zI q, zI r] n h (fun res n' h' => n' = n ∧ ((fcOk P m p q r ∧ res = some (zI 1) ∧ h' = xup h o (oC (fcD P m p q r) (fcL P m p q r) (fcS P m p q r).2 me le rw)) ∨ (¬ fcOk P m p q r ∧ res = some (zI 0) ∧ ∃ d lv se, ((d = d0 ∧ lv = lv0 ∧ se = se0) ∨ (d = prim (nrm P p q r) ∧ lv = dot (prim (nrm P p q r)) (P p) ∧ se = (fcS P m p q r).2)) ∧ h' = xup h o (oC d lv se me le rw)))) := by
  have hb := H.2.2.2.2.2
  have h1 := H.1
  have hN := nrm_bd hb hp hq hr
  have hN' := hN
  obtain ⟨n1, n2, n3⟩ := hN
  refine xCall.of xgX3_face rfl ?_
  refine tt_op rfl rfl ?_
  refine tt_get rfl (by assumption) (by rfl) ?_
  refine tt_op rfl rfl ?_
  refine tt_op rfl rfl ?_
  refine tt_op rfl rfl ?_
  refine tt_op rfl rfl ?_
  refine tt_op rfl rfl ?_
  refine tt_op rfl rfl ?_
  refine tt_pV rfl rfl rfl h1 rfl (c_swing H p q r hp hq hr _ _ _) ?_
  refine tt_op rfl rfl ?_
  refine tt_op rfl rfl ?_
  refine tt_get rfl (by assumption) (by rfl) ?_
  refine tt_op rfl rfl ?_
  refine tt_op rfl rfl ?_
  refine tt_op rfl rfl ?_
  refine tt_op rfl rfl ?_
  refine tt_op rfl rfl ?_
  refine tt_op rfl rfl ?_
  refine tt_pV rfl rfl rfl h1 rfl (c_swing H p q r hp hq hr _ _ _) ?_
  refine tt_op rfl rfl ?_
  refine tt_op rfl rfl ?_
  refine tt_get rfl (by assumption) (by rfl) ?_
  refine tt_op rfl rfl ?_
  refine tt_op rfl rfl ?_
  refine tt_op rfl rfl ?_
  refine tt_op rfl rfl ?_
  refine tt_op rfl rfl ?_
  refine tt_op rfl rfl ?_
  refine tt_pV rfl rfl rfl h1 rfl (c_swing H p q r hp hq hr _ _ _) ?_
  refine tt_op rfl rfl ?_
  refine tt_op rfl rfl ?_
  refine tt_op rfl rfl ?_
  have g1 := gcd_le (nrm P p q r).1 (nrm P p q r).2.1
  refine tt_pS rfl rfl rfl rfl (c_divisor (nrm P p q r).1 (nrm P p q r).2.1 ⟨by omega, by omega⟩ ⟨by omega, by omega⟩ n h) ?_
  refine tt_op rfl rfl ?_
  refine tt_pS rfl rfl rfl rfl (c_divisor _ (nrm P p q r).2.2 ⟨by omega, by omega⟩ ⟨by omega, by omega⟩ n h) ?_
  have g2 := gcd_le (Int.gcd (nrm P p q r).1 (nrm P p q r).2.1 : Int) (nrm P p q r).2.2
  have hg : gcd3 (nrm P p q r) ≤ 100000 := by unfold gcd3; omega
  refine tt_op rfl rfl ?_
  refine tt_op rfl rfl ?_
  refine tt_op rfl rfl ?_
  refine z_lif rfl rfl (show R6 (gcd3 (nrm P p q r) : Int) by unfold R6; omega) ⟨by decide, by decide⟩ (fun c => ?_) (fun c => ?_)
  rotate_left
  · have c : ¬ (gcd3 (nrm P p q r) : Int) ≠ 0 := c
    refine tt_op rfl rfl ?_
    refine tt_ireturn rfl rfl (by rfl) (Nat.le_of_ble_eq_true rfl) (Nat.le_of_ble_eq_true rfl) ?_
    exact ⟨rfl, Or.inr ⟨fun z => z.1 (by omega), rfl, d0, lv0, se0, Or.inl ⟨rfl, rfl, rfl⟩, (xup_same ho).symm⟩⟩
  have c : (gcd3 (nrm P p q r) : Int) ≠ 0 := c
  have RG : R6 (gcd3 (nrm P p q r) : Int) := by unfold R6; omega
  refine tt_op rfl rfl ?_
  refine tt_op rfl rfl ?_
  refine tt_op rfl rfl ?_
  refine z_ldiv (x := (nrm P p q r).1) (y := (gcd3 (nrm P p q r) : Int)) rfl c (by unfold R6; omega) (by omega) RG ?_
  refine tt_op rfl rfl ?_
  refine tt_op rfl rfl ?_
  refine z_ldiv (x := (nrm P p q r).2.1) (y := (gcd3 (nrm P p q r) : Int)) rfl c (by unfold R6; omega) (by omega) RG ?_
  refine tt_op rfl rfl ?_
  refine tt_op rfl rfl ?_
  refine z_ldiv (x := (nrm P p q r).2.2) (y := (gcd3 (nrm P p q r) : Int)) rfl c (by unfold R6; omega) (by omega) RG ?_
  refine tt_op rfl rfl ?_
  refine tt_callV (M' := xmX3_look) rfl rfl rfl ho rfl (c_look o d0 (prim (nrm P p q r)) lv0 se0 0 me le rw ho) ?_
  rintro r1 n1' h1' ⟨rfl, rfl, rfl⟩
  have hD := prim_bd hN'
  generalize hd : prim (nrm P p q r) = d at hD
  have H1 := xCl_up (e := oC d lv0 0 me le rw) ho5 H
  have k1 := H1.1
  have hO := (xup_s : xup h o (oC d lv0 0 me le rw) o = _)
  refine tt_op rfl rfl ?_
  refine tt_op rfl rfl ?_
  refine tt_get rfl (by assumption) (by rfl) ?_
  refine tt_op rfl rfl ?_
  refine tt_op rfl rfl ?_
  refine tt_get rfl (by assumption) (by rfl) ?_
  refine tt_op rfl rfl ?_
  refine tt_get rfl (by assumption) (by rfl) ?_
  refine tt_op rfl rfl ?_
  refine tt_get rfl (by assumption) (by rfl) ?_
  refine tt_pV rfl rfl rfl k1 rfl (c_sum H1 p hp _ _ _) ?_
  refine tt_put rfl (hO) rfl (by decide) (by rfl) (by rfl) rfl ?_
  rw [xup_xup]
  have hlv := dot_bd hD (hb p hp)
  have H2 := xCl_up (e := oC d (dot d (P p)) 0 me le rw) ho5 H
  have hO := (xup_s : xup h o (oC d (dot d (P p)) 0 me le rw) o = _)
  refine tt_op rfl rfl ?_
  refine tt_op rfl rfl ?_
  refine tt_callV (M' := xmX3_sidesTaken) rfl rfl rfl hO rfl (c_sides H2 o ho5 d (dot d (P p)) 0 me le rw hD ⟨by omega, by omega⟩ hO) ?_
  rintro r2 n2' h2' ⟨rfl, rfl, rfl⟩
  rw [xup_xup]
  have hO := (xup_s : xup h o (oC d (dot d (P p)) (sdR P d (dot d (P p)) m 0 0 0).2 me le rw) o = _)
  refine tt_callV (M' := xmX3_turnOutward) rfl rfl rfl hO rfl (c_outw o _ (sdR_lt P d (dot d (P p)) m 0 0 0 (by decide)) d (dot d (P p)) _ me le rw hO) ?_
  rintro r3 n3' h3' ⟨rfl, rfl, rfl⟩
  rw [xup_xup]
  refine tt_ireturn rfl rfl (by split <;> rfl) (Nat.le_of_ble_eq_true rfl) (Nat.le_of_ble_eq_true rfl) ?_
  refine ⟨rfl, ?_⟩
  have hS : fcS P m p q r = sdR P d (dot d (P p)) m 0 0 0 := by unfold fcS; rw [hd]
  by_cases hok : (sdR P d (dot d (P p)) m 0 0 0).1 = 1 ∨ (sdR P d (dot d (P p)) m 0 0 0).1 = 2
  · refine Or.inl ⟨⟨by omega, by rw [hS]; exact hok⟩, by rw [if_pos hok], ?_⟩
    unfold fcD fcL
    rw [hS, hd]
    by_cases h2 : (sdR P d (dot d (P p)) m 0 0 0).1 = 2
    · rw [if_pos h2, if_pos h2, if_pos h2]
    · rw [if_neg h2, if_neg h2, if_neg h2]
  · refine Or.inr ⟨fun z => hok (by rw [← hS]; exact z.2), by rw [if_neg hok], ?_⟩
    by_cases h2 : (sdR P d (dot d (P p)) m 0 0 0).1 = 2
    · exact absurd (Or.inr h2) hok
    · exact ⟨d, dot d (P p), (sdR P d (dot d (P p)) m 0 0 0).2, Or.inr ⟨rfl, rfl, by rw [hS]⟩, by rw [if_neg h2]⟩
end OL
