/-! Points, and the cloud's methods -/
abbrev V3 : Type := Int × Int × Int
def dot (u v : V3) : Int := u.1 * v.1 + u.2.1 * v.2.1 + u.2.2 * v.2.2
def vsub (u v : V3) : V3 := (u.1 - v.1, u.2.1 - v.2.1, u.2.2 - v.2.2)
def vcr (u v : V3) : V3 := (u.2.1 * v.2.2 - u.2.2 * v.2.1, u.2.2 * v.1 - u.1 * v.2.2, u.1 * v.2.1 - u.2.1 * v.1)
def vbd (k : Int) (u : V3) : Prop := (-k ≤ u.1 ∧ u.1 ≤ k) ∧ (-k ≤ u.2.1 ∧ u.2.1 ≤ k) ∧ -k ≤ u.2.2 ∧ u.2.2 ≤ k
def swg (P : Nat → V3) (p q r : Nat) (d : V3) : Int := dot d (vcr (vsub (P q) (P p)) (vsub (P r) (P p)))
def spr (P : Nat → V3) (p q : Nat) (d : V3) : Int := dot (vcr (vsub (P q) (P p)) d) (vcr (vsub (P q) (P p)) d)
def dst (P : Nat → V3) (p q : Nat) : Int := dot (vsub (P q) (P p)) (vsub (P q) (P p))
def bxs (P : Nat → V3) (p q r s : Nat) : Int := swg P p q r (vsub (P s) (P p))
/-- the cloud's cells -/
def xCl (h : xHp) (m : Nat) (P : Nat → V3) : Prop := h 1 = some (.inr (0, [zI m, .ref 2, .ref 3, .ref 4])) ∧ h 2 = some (zA 14 fun j => (P j).1) ∧ h 3 = some (zA 14 fun j => (P j).2.1) ∧ h 4 = some (zA 14 fun j => (P j).2.2) ∧ m ≤ 14 ∧ ∀ j, j < 14 → vbd 20 (P j)
set_option maxRecDepth 10000 in
theorem c_isPoint (k : Nat) (hk : k < 14) (n : Nat) (h : xHp) : xPure xmX5_isPoint 1 [zI k] n h (zI 1) := by
  refine xCall.of xgX5_isPoint rfl ?_
  refine tt_op rfl rfl ?_
  refine z_if rfl (by first | assumption | (unfold R3; omega)) (fun c => absurd c (by simp only [zcd] <;> omega)) (fun c => ?_)
  refine tt_op rfl rfl ?_
  refine tt_op rfl rfl ?_
  refine z_icmp rfl (by first | assumption | (unfold R3; omega)) (by first | assumption | (unfold R3; omega)) (fun c => absurd c (by simp only [zcd] <;> omega)) (fun c => ?_)
  refine tt_op rfl rfl ?_
  refine tt_goto rfl ?_
  refine tt_ireturn rfl rfl (by rfl) (Nat.le_of_ble_eq_true rfl) (Nat.le_of_ble_eq_true rfl) ?_
  exact ⟨rfl, rfl, rfl⟩
section CL
variable {h : xHp} {m : Nat} {P : Nat → V3} {n : Nat}
set_option maxRecDepth 10000 in
theorem c_sum (H : xCl h m P) (k : Nat) (hk : k < 14) (a b c : Int) : xPure xmX0_sum 2 [.ref 1, zI k, zJ a, zJ b, zJ c] n h (zJ (dot (a, b, c) (P k))) := by
  obtain ⟨h1, h2, h3, h4, hm, hb⟩ := H
  obtain ⟨b1, b2, b3⟩ := hb k hk
  refine xCall.of xgX0_sum rfl ?_
  refine tt_op rfl rfl ?_
  refine tt_pS rfl rfl rfl rfl (c_isPoint k hk n h) ?_
  refine z_if rfl (by first | assumption | (unfold R3; omega)) (fun c => absurd c (by simp only [zcd] <;> omega)) (fun c => ?_)
  refine tt_op rfl rfl ?_
  refine tt_op rfl rfl ?_
  refine tt_get rfl (by assumption) (by rfl) ?_
  refine tt_op rfl rfl ?_
  refine z_iald rfl (by assumption) rfl (by omega) (by decide) ?_
  refine z_il rfl (by first | assumption | (unfold R3; omega)) ?_
  refine z_lmul rfl ?_
  refine tt_op rfl rfl ?_
  refine tt_op rfl rfl ?_
  refine tt_get rfl (by assumption) (by rfl) ?_
  refine tt_op rfl rfl ?_
  refine z_iald rfl (by assumption) rfl (by omega) (by decide) ?_
  refine z_il rfl (by first | assumption | (unfold R3; omega)) ?_
  refine z_lmul rfl ?_
  refine z_ladd rfl ?_
  refine tt_op rfl rfl ?_
  refine tt_op rfl rfl ?_
  refine tt_get rfl (by assumption) (by rfl) ?_
  refine tt_op rfl rfl ?_
  refine z_iald rfl (by assumption) rfl (by omega) (by decide) ?_
  refine z_il rfl (by first | assumption | (unfold R3; omega)) ?_
  refine z_lmul rfl ?_
  refine z_ladd rfl ?_
  refine tt_goto rfl ?_
  refine tt_lreturn rfl rfl (Nat.le_of_ble_eq_true rfl) (Nat.le_of_ble_eq_true rfl) ?_
  exact ⟨rfl, rfl, rfl⟩
set_option maxRecDepth 10000 in
set_option maxHeartbeats 1000000 in
theorem c_swing (H : xCl h m P) (p q r : Nat) (hp : p < 14) (hq : q < 14) (hr : r < 14) (a b c : Int) : xPure xmX0_swing 2 [.ref 1, zI p, zI q, zI r, zJ a, zJ b, zJ c] n h (zJ (swg P p q r (a, b, c))) := by
  obtain ⟨h1, h2, h3, h4, hm, hb⟩ := H
  obtain ⟨p1, p2, p3⟩ := hb p hp
  obtain ⟨q1, q2, q3⟩ := hb q hq
  obtain ⟨r1, r2, r3⟩ := hb r hr
  refine xCall.of xgX0_swing rfl ?_
  refine tt_op rfl rfl ?_
  refine tt_pS rfl rfl rfl rfl (c_isPoint p hp n h) ?_
  refine z_if rfl (by first | assumption | (unfold R3; omega)) (fun c => absurd c (by simp only [zcd] <;> omega)) (fun c => ?_)
  refine tt_op rfl rfl ?_
  refine tt_pS rfl rfl rfl rfl (c_isPoint q hq n h) ?_
  refine z_if rfl (by first | assumption | (unfold R3; omega)) (fun c => absurd c (by simp only [zcd] <;> omega)) (fun c => ?_)
  refine tt_op rfl rfl ?_
  refine tt_pS rfl rfl rfl rfl (c_isPoint r hr n h) ?_
  refine z_if rfl (by first | assumption | (unfold R3; omega)) (fun c => ?_) (fun c => absurd (by simp only [zcd] <;> omega) c)
  refine tt_op rfl rfl ?_
  refine tt_get rfl (by assumption) (by rfl) ?_
  refine tt_op rfl rfl ?_
  refine z_iald rfl (by assumption) rfl (by omega) (by decide) ?_
  refine tt_op rfl rfl ?_
  refine tt_get rfl (by assumption) (by rfl) ?_
  refine tt_op rfl rfl ?_
  refine z_iald rfl (by assumption) rfl (by omega) (by decide) ?_
  refine z_isub rfl ?_
  refine z_il rfl (by first | assumption | (unfold R3; omega)) ?_
  refine tt_op rfl rfl ?_
  refine tt_op rfl rfl ?_
  refine tt_get rfl (by assumption) (by rfl) ?_
  refine tt_op rfl rfl ?_
  refine z_iald rfl (by assumption) rfl (by omega) (by decide) ?_
  refine tt_op rfl rfl ?_
  refine tt_get rfl (by assumption) (by rfl) ?_
  refine tt_op rfl rfl ?_
  refine z_iald rfl (by assumption) rfl (by omega) (by decide) ?_
  refine z_isub rfl ?_
  refine z_il rfl (by first | assumption | (unfold R3; omega)) ?_
  refine tt_op rfl rfl ?_
  refine tt_op rfl rfl ?_
  refine tt_get rfl (by assumption) (by rfl) ?_
  refine tt_op rfl rfl ?_
  refine z_iald rfl (by assumption) rfl (by omega) (by decide) ?_
  refine tt_op rfl rfl ?_
  refine tt_get rfl (by assumption) (by rfl) ?_
  refine tt_op rfl rfl ?_
  refine z_iald rfl (by assumption) rfl (by omega) (by decide) ?_
  refine z_isub rfl ?_
  refine z_il rfl (by first | assumption | (unfold R3; omega)) ?_
  refine tt_op rfl rfl ?_
  refine tt_op rfl rfl ?_
  refine tt_get rfl (by assumption) (by rfl) ?_
  refine tt_op rfl rfl ?_
  refine z_iald rfl (by assumption) rfl (by omega) (by decide) ?_
  refine tt_op rfl rfl ?_
  refine tt_get rfl (by assumption) (by rfl) ?_
  refine tt_op rfl rfl ?_
  refine z_iald rfl (by assumption) rfl (by omega) (by decide) ?_
  refine z_isub rfl ?_
  refine z_il rfl (by first | assumption | (unfold R3; omega)) ?_
  refine tt_op rfl rfl ?_
  refine tt_op rfl rfl ?_
  refine tt_get rfl (by assumption) (by rfl) ?_
  refine tt_op rfl rfl ?_
  refine z_iald rfl (by assumption) rfl (by omega) (by decide) ?_
  refine tt_op rfl rfl ?_
  refine tt_get rfl (by assumption) (by rfl) ?_
  refine tt_op rfl rfl ?_
  refine z_iald rfl (by assumption) rfl (by omega) (by decide) ?_
  refine z_isub rfl ?_
  refine z_il rfl (by first | assumption | (unfold R3; omega)) ?_
  refine tt_op rfl rfl ?_
  refine tt_op rfl rfl ?_
  refine tt_get rfl (by assumption) (by rfl) ?_
  refine tt_op rfl rfl ?_
  refine z_iald rfl (by assumption) rfl (by omega) (by decide) ?_
  refine tt_op rfl rfl ?_
  refine tt_get rfl (by assumption) (by rfl) ?_
  refine tt_op rfl rfl ?_
  refine z_iald rfl (by assumption) rfl (by omega) (by decide) ?_
  refine z_isub rfl ?_
  refine z_il rfl (by first | assumption | (unfold R3; omega)) ?_
  refine tt_op rfl rfl ?_
  refine tt_op rfl rfl ?_
  refine tt_op rfl rfl ?_
  refine tt_op rfl rfl ?_
  refine z_lmul rfl ?_
  refine tt_op rfl rfl ?_
  refine tt_op rfl rfl ?_
  refine z_lmul rfl ?_
  refine z_lsub rfl ?_
  refine z_lmul rfl ?_
  refine tt_op rfl rfl ?_
  refine tt_op rfl rfl ?_
  refine tt_op rfl rfl ?_
  refine z_lmul rfl ?_
  refine tt_op rfl rfl ?_
  refine tt_op rfl rfl ?_
  refine z_lmul rfl ?_
  refine z_lsub rfl ?_
  refine z_lmul rfl ?_
  refine z_ladd rfl ?_
  refine tt_op rfl rfl ?_
  refine tt_op rfl rfl ?_
  refine tt_op rfl rfl ?_
  refine z_lmul rfl ?_
  refine tt_op rfl rfl ?_
  refine tt_op rfl rfl ?_
  refine z_lmul rfl ?_
  refine z_lsub rfl ?_
  refine z_lmul rfl ?_
  refine z_ladd rfl ?_
  refine tt_lreturn rfl rfl (Nat.le_of_ble_eq_true rfl) (Nat.le_of_ble_eq_true rfl) ?_
  exact ⟨rfl, rfl, rfl⟩
set_option maxRecDepth 10000 in
set_option maxHeartbeats 1000000 in
theorem c_spread (H : xCl h m P) (p q : Nat) (hp : p < 14) (hq : q < 14) (a b c : Int) : xPure xmX0_spread 2 [.ref 1, zI p, zI q, zJ a, zJ b, zJ c] n h (zJ (spr P p q (a, b, c))) := by
  obtain ⟨h1, h2, h3, h4, hm, hb⟩ := H
  obtain ⟨p1, p2, p3⟩ := hb p hp
  obtain ⟨q1, q2, q3⟩ := hb q hq
  refine xCall.of xgX0_spread rfl ?_
  refine tt_op rfl rfl ?_
  refine tt_pS rfl rfl rfl rfl (c_isPoint p hp n h) ?_
  refine z_if rfl (by first | assumption | (unfold R3; omega)) (fun c => absurd c (by simp only [zcd] <;> omega)) (fun c => ?_)
  refine tt_op rfl rfl ?_
  refine tt_pS rfl rfl rfl rfl (c_isPoint q hq n h) ?_
  refine z_if rfl (by first | assumption | (unfold R3; omega)) (fun c => ?_) (fun c => absurd (by simp only [zcd] <;> omega) c)
  refine tt_op rfl rfl ?_
  refine tt_get rfl (by assumption) (by rfl) ?_
  refine tt_op rfl rfl ?_
  refine z_iald rfl (by assumption) rfl (by omega) (by decide) ?_
  refine tt_op rfl rfl ?_
  refine tt_get rfl (by assumption) (by rfl) ?_
  refine tt_op rfl rfl ?_
  refine z_iald rfl (by assumption) rfl (by omega) (by decide) ?_
  refine z_isub rfl ?_
  refine z_il rfl (by first | assumption | (unfold R3; omega)) ?_
  refine tt_op rfl rfl ?_
  refine tt_op rfl rfl ?_
  refine tt_get rfl (by assumption) (by rfl) ?_
  refine tt_op rfl rfl ?_
  refine z_iald rfl (by assumption) rfl (by omega) (by decide) ?_
  refine tt_op rfl rfl ?_
  refine tt_get rfl (by assumption) (by rfl) ?_
  refine tt_op rfl rfl ?_
  refine z_iald rfl (by assumption) rfl (by omega) (by decide) ?_
  refine z_isub rfl ?_
  refine z_il rfl (by first | assumption | (unfold R3; omega)) ?_
  refine tt_op rfl rfl ?_
  refine tt_op rfl rfl ?_
  refine tt_get rfl (by assumption) (by rfl) ?_
  refine tt_op rfl rfl ?_
  refine z_iald rfl (by assumption) rfl (by omega) (by decide) ?_
  refine tt_op rfl rfl ?_
  refine tt_get rfl (by assumption) (by rfl) ?_
  refine tt_op rfl rfl ?_
  refine z_iald rfl (by assumption) rfl (by omega) (by decide) ?_
  refine z_isub rfl ?_
  refine z_il rfl (by first | assumption | (unfold R3; omega)) ?_
  refine tt_op rfl rfl ?_
  refine tt_op rfl rfl ?_
  refine tt_op rfl rfl ?_
  refine z_lmul rfl ?_
  refine tt_op rfl rfl ?_
  refine tt_op rfl rfl ?_
  refine z_lmul rfl ?_
  refine z_lsub rfl ?_
  refine tt_op rfl rfl ?_
  refine tt_op rfl rfl ?_
  refine tt_op rfl rfl ?_
  refine z_lmul rfl ?_
  refine tt_op rfl rfl ?_
  refine tt_op rfl rfl ?_
  refine z_lmul rfl ?_
  refine z_lsub rfl ?_
  refine tt_op rfl rfl ?_
  refine tt_op rfl rfl ?_
  refine tt_op rfl rfl ?_
  refine z_lmul rfl ?_
  refine tt_op rfl rfl ?_
  refine tt_op rfl rfl ?_
  refine z_lmul rfl ?_
  refine z_lsub rfl ?_
  refine tt_op rfl rfl ?_
  refine tt_op rfl rfl ?_
  refine tt_op rfl rfl ?_
  refine z_lmul rfl ?_
  refine tt_op rfl rfl ?_
  refine tt_op rfl rfl ?_
  refine z_lmul rfl ?_
  refine z_ladd rfl ?_
  refine tt_op rfl rfl ?_
  refine tt_op rfl rfl ?_
  refine z_lmul rfl ?_
  refine z_ladd rfl ?_
  refine tt_lreturn rfl rfl (Nat.le_of_ble_eq_true rfl) (Nat.le_of_ble_eq_true rfl) ?_
  exact ⟨rfl, rfl, rfl⟩
set_option maxRecDepth 10000 in
theorem c_distance (H : xCl h m P) (p q : Nat) (hp : p < 14) (hq : q < 14) : xPure xmX0_distance 2 [.ref 1, zI p, zI q] n h (zI (dst P p q)) := by
  obtain ⟨h1, h2, h3, h4, hm, hb⟩ := H
  refine xCall.of xgX0_distance rfl ?_
  refine tt_op rfl rfl ?_
  refine tt_pS rfl rfl rfl rfl (c_isPoint p hp n h) ?_
  refine z_if rfl (by first | assumption | (unfold R3; omega)) (fun c => absurd c (by simp only [zcd] <;> omega)) (fun c => ?_)
  refine tt_op rfl rfl ?_
  refine tt_pS rfl rfl rfl rfl (c_isPoint q hq n h) ?_
  refine z_if rfl (by first | assumption | (unfold R3; omega)) (fun c => ?_) (fun c => absurd (by simp only [zcd] <;> omega) c)
  refine tt_op rfl rfl ?_
  refine tt_get rfl (by assumption) (by rfl) ?_
  refine tt_op rfl rfl ?_
  refine z_iald rfl (by assumption) rfl (by omega) (by decide) ?_
  refine tt_op rfl rfl ?_
  refine tt_get rfl (by assumption) (by rfl) ?_
  refine tt_op rfl rfl ?_
  refine z_iald rfl (by assumption) rfl (by omega) (by decide) ?_
  refine z_isub rfl ?_
  refine tt_op rfl rfl ?_
  refine tt_op rfl rfl ?_
  refine tt_get rfl (by assumption) (by rfl) ?_
  refine tt_op rfl rfl ?_
  refine z_iald rfl (by assumption) rfl (by omega) (by decide) ?_
  refine tt_op rfl rfl ?_
  refine tt_get rfl (by assumption) (by rfl) ?_
  refine tt_op rfl rfl ?_
  refine z_iald rfl (by assumption) rfl (by omega) (by decide) ?_
  refine z_isub rfl ?_
  refine tt_op rfl rfl ?_
  refine tt_op rfl rfl ?_
  refine tt_get rfl (by assumption) (by rfl) ?_
  refine tt_op rfl rfl ?_
  refine z_iald rfl (by assumption) rfl (by omega) (by decide) ?_
  refine tt_op rfl rfl ?_
  refine tt_get rfl (by assumption) (by rfl) ?_
  refine tt_op rfl rfl ?_
  refine z_iald rfl (by assumption) rfl (by omega) (by decide) ?_
  refine z_isub rfl ?_
  refine tt_op rfl rfl ?_
  refine tt_op rfl rfl ?_
  refine tt_op rfl rfl ?_
  refine z_imul rfl ?_
  refine tt_op rfl rfl ?_
  refine tt_op rfl rfl ?_
  refine z_imul rfl ?_
  refine z_iadd rfl ?_
  refine tt_op rfl rfl ?_
  refine tt_op rfl rfl ?_
  refine z_imul rfl ?_
  refine z_iadd rfl ?_
  refine tt_ireturn rfl rfl (by rfl) (Nat.le_of_ble_eq_true rfl) (Nat.le_of_ble_eq_true rfl) ?_
  exact ⟨rfl, rfl, rfl⟩
set_option maxRecDepth 10000 in
theorem c_box (H : xCl h m P) (p q r s : Nat) (hp : p < 14) (hq : q < 14) (hr : r < 14) (hs : s < 14) : xPure xmX0_box 3 [.ref 1, zI p, zI q, zI r, zI s] n h (zJ (bxs P p q r s)) := by
  have H' := H
  obtain ⟨h1, h2, h3, h4, hm, hb⟩ := H
  obtain ⟨p1, p2, p3⟩ := hb p hp
  obtain ⟨s1, s2, s3⟩ := hb s hs
  refine xCall.of xgX0_box rfl ?_
  refine tt_op rfl rfl ?_
  refine tt_pS rfl rfl rfl rfl (c_isPoint p hp n h) ?_
  refine z_if rfl (by first | assumption | (unfold R3; omega)) (fun c => absurd c (by simp only [zcd] <;> omega)) (fun c => ?_)
  refine tt_op rfl rfl ?_
  refine tt_pS rfl rfl rfl rfl (c_isPoint s hs n h) ?_
  refine z_if rfl (by first | assumption | (unfold R3; omega)) (fun c => ?_) (fun c => absurd (by simp only [zcd] <;> omega) c)
  refine tt_op rfl rfl ?_
  refine tt_op rfl rfl ?_
  refine tt_op rfl rfl ?_
  refine tt_op rfl rfl ?_
  refine tt_op rfl rfl ?_
  refine tt_get rfl (by assumption) (by rfl) ?_
  refine tt_op rfl rfl ?_
  refine z_iald rfl (by assumption) rfl (by omega) (by decide) ?_
  refine tt_op rfl rfl ?_
  refine tt_get rfl (by assumption) (by rfl) ?_
  refine tt_op rfl rfl ?_
  refine z_iald rfl (by assumption) rfl (by omega) (by decide) ?_
  refine z_isub rfl ?_
  refine z_il rfl (by first | assumption | (unfold R3; omega)) ?_
  refine tt_op rfl rfl ?_
  refine tt_get rfl (by assumption) (by rfl) ?_
  refine tt_op rfl rfl ?_
  refine z_iald rfl (by assumption) rfl (by omega) (by decide) ?_
  refine tt_op rfl rfl ?_
  refine tt_get rfl (by assumption) (by rfl) ?_
  refine tt_op rfl rfl ?_
  refine z_iald rfl (by assumption) rfl (by omega) (by decide) ?_
  refine z_isub rfl ?_
  refine z_il rfl (by first | assumption | (unfold R3; omega)) ?_
  refine tt_op rfl rfl ?_
  refine tt_get rfl (by assumption) (by rfl) ?_
  refine tt_op rfl rfl ?_
  refine z_iald rfl (by assumption) rfl (by omega) (by decide) ?_
  refine tt_op rfl rfl ?_
  refine tt_get rfl (by assumption) (by rfl) ?_
  refine tt_op rfl rfl ?_
  refine z_iald rfl (by assumption) rfl (by omega) (by decide) ?_
  refine z_isub rfl ?_
  refine z_il rfl (by first | assumption | (unfold R3; omega)) ?_
  refine tt_pV rfl rfl rfl h1 rfl (c_swing H' p q r hp hq hr _ _ _) ?_
  refine tt_lreturn rfl rfl (Nat.le_of_ble_eq_true rfl) (Nat.le_of_ble_eq_true rfl) ?_
  exact ⟨rfl, rfl, rfl⟩
def vax (u : V3) (k : Nat) : Int := if k = 0 then u.1 else if k = 1 then u.2.1 else u.2.2
set_option maxRecDepth 10000 in
theorem c_number (H : xCl h m P) (k ax : Nat) (hk : k < 14) (ha : ax < 3) : xPure xmX0_number 2 [.ref 1, zI k, zI ax] n h (zI (vax (P k) ax)) := by
  obtain ⟨h1, h2, h3, h4, hm, hb⟩ := H
  refine xCall.of xgX0_number rfl ?_
  refine tt_op rfl rfl ?_
  refine tt_pS rfl rfl rfl rfl (c_isPoint k hk n h) ?_
  refine z_if rfl (by first | assumption | (unfold R3; omega)) (fun c => ?_) (fun c => absurd (by simp only [zcd] <;> omega) c)
  refine tt_op rfl rfl ?_
  refine z_if rfl (by first | assumption | (unfold R3; omega)) (fun c => ?_) (fun c => ?_)
  · simp only [zcd] at c
    refine tt_op rfl rfl ?_
    refine tt_op rfl rfl ?_
    refine z_icmp rfl (by first | assumption | (unfold R3; omega)) (by first | assumption | (unfold R3; omega)) (fun c => ?_) (fun c => ?_)
    · simp only [zcd] at c
      refine tt_op rfl rfl ?_
      refine tt_get rfl (by assumption) (by rfl) ?_
      refine tt_op rfl rfl ?_
      refine z_iald rfl (by assumption) rfl (by omega) (by decide) ?_
      refine tt_ireturn rfl rfl (by rfl) (Nat.le_of_ble_eq_true rfl) (Nat.le_of_ble_eq_true rfl) ?_
      refine ⟨?_, rfl, rfl⟩
      simp only [vax]
      rw [if_neg (by omega), if_neg (by omega)]
    · simp only [zcd] at c
      refine tt_op rfl rfl ?_
      refine tt_get rfl (by assumption) (by rfl) ?_
      refine tt_op rfl rfl ?_
      refine z_iald rfl (by assumption) rfl (by omega) (by decide) ?_
      refine tt_goto rfl ?_
      refine tt_ireturn rfl rfl (by rfl) (Nat.le_of_ble_eq_true rfl) (Nat.le_of_ble_eq_true rfl) ?_
      refine ⟨?_, rfl, rfl⟩
      simp only [vax]
      rw [if_neg (by omega), if_pos (by omega)]
  · simp only [zcd] at c
    refine tt_op rfl rfl ?_
    refine tt_get rfl (by assumption) (by rfl) ?_
    refine tt_op rfl rfl ?_
    refine z_iald rfl (by assumption) rfl (by omega) (by decide) ?_
    refine tt_goto rfl ?_
    refine tt_ireturn rfl rfl (by rfl) (Nat.le_of_ble_eq_true rfl) (Nat.le_of_ble_eq_true rfl) ?_
    refine ⟨?_, rfl, rfl⟩
    simp only [vax]
    rw [if_pos (by omega)]
/-- whether a point is among the first ones -/
def hasP (P : Nat → V3) (m : Nat) (u : V3) : Prop := ∃ k, k < m ∧ P k = u
set_option maxRecDepth 10000 in
theorem c_has_loop (H : xCl h m P) (u : V3) (hu : vbd 20 u) (v : Value) (hv1 : hasP P m u → v = zI 1) (hv0 : ¬ hasP P m u → v = zI 0) : ∀ (j k : Nat), k + j = m → (∀ i, i < k → P i ≠ u) → xT xmX0_has (2, 0, 0, 0, 0) 3 [some (.ref 1), some (zI u.1), some (zI u.2.1), some (zI u.2.2), some (zI k)] [] n h (fun r n' h' => r = some v ∧ n' = n ∧ h' = h) := by
  obtain ⟨h1, h2, h3, h4, hm, hb⟩ := H
  obtain ⟨u1, u2, u3⟩ := hu
  intro j
  induction j with
  | zero =>
    intro k hk hno
    refine tt_op rfl rfl ?_
    refine tt_op rfl rfl ?_
    refine tt_get rfl (by assumption) (by rfl) ?_
    refine z_icmp rfl (by first | assumption | (unfold R3; omega)) (by first | assumption | (unfold R3; omega)) (fun c => ?_) (fun c => absurd (by simp only [zcd] <;> omega) c)
    refine tt_op rfl rfl ?_
    refine tt_ireturn rfl rfl (by rfl) (Nat.le_of_ble_eq_true rfl) (Nat.le_of_ble_eq_true rfl) ?_
    refine ⟨congrArg some (hv0 ?_).symm, rfl, rfl⟩
    rintro ⟨i, hi, e⟩
    exact hno i (by omega) e
  | succ j ih =>
    intro k hk hno
    obtain ⟨k1, k2, k3⟩ := hb k (by omega)
    have nx : P k ≠ u → xT xmX0_has (2, 0, 0, 0, 0) 54 [some (.ref 1), some (zI u.1), some (zI u.2.1), some (zI u.2.2), some (zI k)] [] n h (fun r n' h' => r = some v ∧ n' = n ∧ h' = h) := by
      intro hne
      refine z_iinc rfl rfl rfl ?_
      refine tt_goto rfl ?_
      exact ih (k + 1) (by omega) (fun i hi => by
        rcases Nat.lt_or_ge i k with q | q
        · exact hno i q
        · rw [show i = k by omega]; exact hne)
    refine tt_op rfl rfl ?_
    refine tt_op rfl rfl ?_
    refine tt_get rfl (by assumption) (by rfl) ?_
    refine z_icmp rfl (by first | assumption | (unfold R3; omega)) (by first | assumption | (unfold R3; omega)) (fun c => absurd c (by simp only [zcd] <;> omega)) (fun c => ?_)
    refine tt_op rfl rfl ?_
    refine tt_op rfl rfl ?_
    refine z_icmp rfl (by first | assumption | (unfold R3; omega)) (by first | assumption | (unfold R3; omega)) (fun c => absurd c (by simp only [zcd] <;> omega)) (fun c => ?_)
    refine tt_op rfl rfl ?_
    refine tt_get rfl (by assumption) (by rfl) ?_
    refine tt_op rfl rfl ?_
    refine z_iald rfl (by assumption) rfl (by omega) (by decide) ?_
    refine tt_op rfl rfl ?_
    refine z_icmp rfl (by first | assumption | (unfold R3; omega)) (by first | assumption | (unfold R3; omega)) (fun c1 => ?_) (fun c1 => ?_)
    · exact nx (fun e => by simp only [zcd] at c1; exact c1 (by rw [e]))
    refine tt_op rfl rfl ?_
    refine tt_get rfl (by assumption) (by rfl) ?_
    refine tt_op rfl rfl ?_
    refine z_iald rfl (by assumption) rfl (by omega) (by decide) ?_
    refine tt_op rfl rfl ?_
    refine z_icmp rfl (by first | assumption | (unfold R3; omega)) (by first | assumption | (unfold R3; omega)) (fun c2 => ?_) (fun c2 => ?_)
    · exact nx (fun e => by simp only [zcd] at c2; exact c2 (by rw [e]))
    refine tt_op rfl rfl ?_
    refine tt_get rfl (by assumption) (by rfl) ?_
    refine tt_op rfl rfl ?_
    refine z_iald rfl (by assumption) rfl (by omega) (by decide) ?_
    refine tt_op rfl rfl ?_
    refine z_icmp rfl (by first | assumption | (unfold R3; omega)) (by first | assumption | (unfold R3; omega)) (fun c3 => ?_) (fun c3 => ?_)
    · exact nx (fun e => by simp only [zcd] at c3; exact c3 (by rw [e]))
    refine tt_op rfl rfl ?_
    refine tt_ireturn rfl rfl (by rfl) (Nat.le_of_ble_eq_true rfl) (Nat.le_of_ble_eq_true rfl) ?_
    refine ⟨congrArg some (hv1 ⟨k, by omega, ?_⟩).symm, rfl, rfl⟩
    simp only [zcd, ne_eq, Decidable.not_not] at c1 c2 c3
    exact Prod.ext c1 (Prod.ext c2 c3)
set_option maxRecDepth 10000 in
theorem c_has (H : xCl h m P) (u : V3) (hu : vbd 20 u) (v : Value) (hv1 : hasP P m u → v = zI 1) (hv0 : ¬ hasP P m u → v = zI 0) : xPure xmX0_has 2 [.ref 1, zI u.1, zI u.2.1, zI u.2.2] n h v := by
  refine xCall.of xgX0_has rfl ?_
  refine tt_op rfl rfl ?_
  refine tt_op rfl rfl ?_
  exact c_has_loop H u hu v hv1 hv0 m 0 (by omega) (fun i hi => absurd hi (by omega))
end CL
