/-! The reference: planes -/
def cnt (p : Nat → Bool) : Nat → Nat
  | 0 => 0
  | k + 1 => cnt p k + (if p k = true then 1 else 0)
def bts (p : Nat → Bool) : Nat → Nat
  | 0 => 0
  | k + 1 => bts p k ||| (if p k = true then 2 ^ k else 0)
def anB (p : Nat → Bool) : Nat → Bool
  | 0 => false
  | k + 1 => anB p k || p k
def crs (P : Nat → V3) (p q r : Nat) : V3 := vcr (vsub (P q) (P p)) (vsub (P r) (P p))
theorem crs_bd {P : Nat → V3} {p q r : Nat} (hb : pbd P) (hp : p < 14) (hq : q < 14) (hr : r < 14) : vbd 3200 (crs P p q r) := vbd_le (vbd_cr (vbd_sub (hb q hq) (hb p hp)) (vbd_sub (hb r hr) (hb p hp))) (by omega)
theorem bts_lt (p : Nat → Bool) : ∀ k, k ≤ 14 → bts p k < 16384
  | 0, h => by show (0 : Nat) < 16384; decide
  | k + 1, h => by
    unfold bts
    refine bits_or (bts_lt p k (by omega)) ?_
    split
    · exact bits_pow (by omega)
    · decide
theorem cnt_le (p : Nat → Bool) : ∀ k, cnt p k ≤ k
  | 0 => Nat.le_refl _
  | k + 1 => by
    have := cnt_le p k
    unfold cnt
    split <;> omega
theorem z_b01 (b : Prop) [Decidable b] : R3 (if b then 1 else 0) := by split <;> exact ⟨by decide, by decide⟩
theorem m_in (x lo hi : Int) (hx : R3 x) (h1 : R3 lo) (h2 : R3 hi) (n : Nat) (h : xHp) : xPure xmX6_in 1 [zI x, zI lo, zI hi] n h (zI (if lo ≤ x ∧ x ≤ hi then 1 else 0)) := by
  refine xCall.of xgX6_in rfl ?_
  refine tt_op rfl rfl ?_
  refine tt_op rfl rfl ?_
  refine z_icmp rfl (by first | assumption | (unfold R3; omega)) (by first | assumption | (unfold R3; omega)) (fun c1 => ?_) (fun c1 => ?_)
  · simp only [zcd] at c1
    rw [if_neg (by omega)]
    refine tt_op rfl rfl ?_
    refine tt_ireturn rfl rfl (by rfl) (Nat.le_of_ble_eq_true rfl) (Nat.le_of_ble_eq_true rfl) ?_
    exact ⟨rfl, rfl, rfl⟩
  simp only [zcd] at c1
  refine tt_op rfl rfl ?_
  refine tt_op rfl rfl ?_
  refine z_icmp rfl (by first | assumption | (unfold R3; omega)) (by first | assumption | (unfold R3; omega)) (fun c2 => ?_) (fun c2 => ?_)
  · simp only [zcd] at c2
    rw [if_neg (by omega)]
    refine tt_op rfl rfl ?_
    refine tt_ireturn rfl rfl (by rfl) (Nat.le_of_ble_eq_true rfl) (Nat.le_of_ble_eq_true rfl) ?_
    exact ⟨rfl, rfl, rfl⟩
  simp only [zcd] at c2
  rw [if_pos (by omega)]
  refine tt_op rfl rfl ?_
  refine tt_goto rfl ?_
  refine tt_ireturn rfl rfl (by rfl) (Nat.le_of_ble_eq_true rfl) (Nat.le_of_ble_eq_true rfl) ?_
  exact ⟨rfl, rfl, rfl⟩
theorem m_div_loop (G n : Nat) (h : xHp) (x0 x1 : Int) : ∀ (f u v : Nat) (l4 : Option Value), v < f → Nat.gcd u v = G → u < 2147483648 → v < 2147483648 → xT xmX6_divisor (1, 0, 0, 0, 0) 22 [some (zI x0), some (zI x1), some (zI u), some (zI v), l4] [] n h (fun r n' h' => r = some (zI G) ∧ n' = n ∧ h' = h) := by
  intro f
  induction f with
  | zero => intro u v l4 hf; exact absurd hf (by omega)
  | succ f ih =>
    intro u v l4 hf hg hu hv
    refine tt_op rfl rfl ?_
    refine z_if rfl (by first | assumption | (unfold R3; omega)) (fun c1 => ?_) (fun c1 => ?_)
    · simp only [zcd] at c1
      have : v = 0 := by omega
      subst this
      rw [Nat.gcd_zero_right] at hg
      subst hg
      refine tt_op rfl rfl ?_
      refine tt_ireturn rfl rfl (by rfl) (Nat.le_of_ble_eq_true rfl) (Nat.le_of_ble_eq_true rfl) ?_
      exact ⟨rfl, rfl, rfl⟩
    · simp only [zcd] at c1
      have hlt := Nat.mod_lt u (show v > 0 by omega)
      refine tt_op rfl rfl ?_
      refine tt_op rfl rfl ?_
      refine z_irem rfl (by omega) hu hv ?_
      refine tt_op rfl rfl ?_
      refine tt_op rfl rfl ?_
      refine tt_op rfl rfl ?_
      refine tt_op rfl rfl ?_
      refine tt_op rfl rfl ?_
      refine tt_goto rfl ?_
      refine ih v (u % v) _ (by omega) ?_ hv (by omega)
      rw [← hg, Nat.gcd_comm u v, Nat.gcd_rec v u, Nat.gcd_comm]
theorem m_divisor (x y : Int) (hx : -1073741824 ≤ x ∧ x ≤ 1073741824) (hy : -1073741824 ≤ y ∧ y ≤ 1073741824) (n : Nat) (h : xHp) : xPure xmX6_divisor 1 [zI x, zI y] n h (zI (Int.gcd x y)) := by
  refine xCall.of xgX6_divisor rfl ?_
  have two : ∀ l4, xT xmX6_divisor (1, 0, 0, 0, 0) 10 [some (zI x), some (zI y), none, none, l4] [zI (x.natAbs : Int)] n h (fun r n' h' => r = some (zI (Int.gcd x y)) ∧ n' = n ∧ h' = h) := by
    intro l4
    refine tt_op rfl rfl ?_
    refine tt_op rfl rfl ?_
    refine z_if rfl (by first | assumption | (unfold R3; omega)) (fun c1 => ?_) (fun c1 => ?_)
    · simp only [zcd] at c1
      refine tt_op rfl rfl ?_
      refine tt_op rfl rfl ?_
      have e : y = (y.natAbs : Int) := by omega
      have t := m_div_loop (Int.gcd x y) n h x y (y.natAbs + 1) x.natAbs y.natAbs l4 (by omega) rfl (by omega) (by omega)
      rw [← e] at t
      exact t
    · simp only [zcd] at c1
      refine tt_op rfl rfl ?_
      refine z_ineg rfl ?_
      refine tt_goto rfl ?_
      refine tt_op rfl rfl ?_
      rw [show -y = (y.natAbs : Int) by omega]
      exact m_div_loop (Int.gcd x y) n h x y (y.natAbs + 1) x.natAbs y.natAbs _ (by omega) rfl (by omega) (by omega)
  refine tt_op rfl rfl ?_
  refine z_if rfl (by first | assumption | (unfold R3; omega)) (fun c1 => ?_) (fun c1 => ?_)
  · simp only [zcd] at c1
    refine tt_op rfl rfl ?_
    rw [show ([zI x] : List Value) = [zI (x.natAbs : Int)] by rw [show (x.natAbs : Int) = x by omega]]
    exact two _
  · simp only [zcd] at c1
    refine tt_op rfl rfl ?_
    refine z_ineg rfl ?_
    refine tt_goto rfl ?_
    rw [show -x = (x.natAbs : Int) by omega]
    exact two _
section M1
variable {h : xHp} {m : Nat} {P : Nat → V3} {bu tb fl co fa : Nat} {fb fs fr : Nat → Nat} {nn : Nat → V3} {lv : Nat → Int} {a : V3} {fat : Nat → Nat} {w : Int × V3} {cm : Int} {cX cY cZ cD su sv : Nat → Int} {tu : Nat} {im : Nat → Int} {rk ba : Nat → Nat} {go : Nat → Int}
variable {n : Nat}
set_option maxRecDepth 10000 in
theorem m_cross {p q r : Nat} (hp : p < 14) (hq : q < 14) (hr : r < 14) : xCall xmX6_cross 1 0 0 [.ref 64, zI p, zI q, zI r] n (mdH h m P bu tb fl co fa fb fs fr nn lv a fat w cm cX cY cZ cD su sv tu im rk ba go) (fun res n' h' => res = none ∧ n' = n ∧ h' = (mdH h m P bu tb fl co fa fb fs fr nn lv (crs P p q r) fat w cm cX cY cZ cD su sv tu im rk ba go)) := by
  refine xCall.of xgX6_cross rfl ?_
  refine tt_op rfl rfl ?_
  refine tt_get rfl md64 (by rfl) ?_
  refine tt_op rfl rfl ?_
  refine z_iald rfl md65 rfl (by omega) (by decide) ?_
  refine tt_op rfl rfl ?_
  refine tt_get rfl md64 (by rfl) ?_
  refine tt_op rfl rfl ?_
  refine z_iald rfl md65 rfl (by omega) (by decide) ?_
  refine z_isub rfl ?_
  refine tt_op rfl rfl ?_
  refine tt_op rfl rfl ?_
  refine tt_get rfl md64 (by rfl) ?_
  refine tt_op rfl rfl ?_
  refine z_iald rfl md66 rfl (by omega) (by decide) ?_
  refine tt_op rfl rfl ?_
  refine tt_get rfl md64 (by rfl) ?_
  refine tt_op rfl rfl ?_
  refine z_iald rfl md66 rfl (by omega) (by decide) ?_
  refine z_isub rfl ?_
  refine tt_op rfl rfl ?_
  refine tt_op rfl rfl ?_
  refine tt_get rfl md64 (by rfl) ?_
  refine tt_op rfl rfl ?_
  refine z_iald rfl md67 rfl (by omega) (by decide) ?_
  refine tt_op rfl rfl ?_
  refine tt_get rfl md64 (by rfl) ?_
  refine tt_op rfl rfl ?_
  refine z_iald rfl md67 rfl (by omega) (by decide) ?_
  refine z_isub rfl ?_
  refine tt_op rfl rfl ?_
  refine tt_op rfl rfl ?_
  refine tt_get rfl md64 (by rfl) ?_
  refine tt_op rfl rfl ?_
  refine z_iald rfl md65 rfl (by omega) (by decide) ?_
  refine tt_op rfl rfl ?_
  refine tt_get rfl md64 (by rfl) ?_
  refine tt_op rfl rfl ?_
  refine z_iald rfl md65 rfl (by omega) (by decide) ?_
  refine z_isub rfl ?_
  refine tt_op rfl rfl ?_
  refine tt_op rfl rfl ?_
  refine tt_get rfl md64 (by rfl) ?_
  refine tt_op rfl rfl ?_
  refine z_iald rfl md66 rfl (by omega) (by decide) ?_
  refine tt_op rfl rfl ?_
  refine tt_get rfl md64 (by rfl) ?_
  refine tt_op rfl rfl ?_
  refine z_iald rfl md66 rfl (by omega) (by decide) ?_
  refine z_isub rfl ?_
  refine tt_op rfl rfl ?_
  refine tt_op rfl rfl ?_
  refine tt_get rfl md64 (by rfl) ?_
  refine tt_op rfl rfl ?_
  refine z_iald rfl md67 rfl (by omega) (by decide) ?_
  refine tt_op rfl rfl ?_
  refine tt_get rfl md64 (by rfl) ?_
  refine tt_op rfl rfl ?_
  refine z_iald rfl md67 rfl (by omega) (by decide) ?_
  refine z_isub rfl ?_
  refine tt_op rfl rfl ?_
  refine tt_op rfl rfl ?_
  refine tt_op rfl rfl ?_
  refine tt_op rfl rfl ?_
  refine z_imul rfl ?_
  refine tt_op rfl rfl ?_
  refine tt_op rfl rfl ?_
  refine z_imul rfl ?_
  refine z_isub rfl ?_
  refine md_pax rfl (by decide) ?_
  refine tt_op rfl rfl ?_
  refine tt_op rfl rfl ?_
  refine tt_op rfl rfl ?_
  refine z_imul rfl ?_
  refine tt_op rfl rfl ?_
  refine tt_op rfl rfl ?_
  refine z_imul rfl ?_
  refine z_isub rfl ?_
  refine md_pay rfl (by decide) ?_
  refine tt_op rfl rfl ?_
  refine tt_op rfl rfl ?_
  refine tt_op rfl rfl ?_
  refine z_imul rfl ?_
  refine tt_op rfl rfl ?_
  refine tt_op rfl rfl ?_
  refine z_imul rfl ?_
  refine z_isub rfl ?_
  refine md_paz rfl (by decide) ?_
  refine tt_return rfl rfl (Nat.le_of_ble_eq_true rfl) (Nat.le_of_ble_eq_true rfl) ?_
  exact ⟨rfl, rfl, rfl⟩
set_option maxRecDepth 10000 in
theorem m_height {p : Nat} (hp : p < 14) : xPure xmX6_height 1 [.ref 64, zI p] n (mdH h m P bu tb fl co fa fb fs fr nn lv a fat w cm cX cY cZ cD su sv tu im rk ba go) (zI (dot a (P p))) := by
  refine xCall.of xgX6_height rfl ?_
  refine tt_op rfl rfl ?_
  refine tt_get rfl md64 (by rfl) ?_
  refine tt_op rfl rfl ?_
  refine tt_get rfl md64 (by rfl) ?_
  refine tt_op rfl rfl ?_
  refine z_iald rfl md65 rfl (by omega) (by decide) ?_
  refine z_imul rfl ?_
  refine tt_op rfl rfl ?_
  refine tt_get rfl md64 (by rfl) ?_
  refine tt_op rfl rfl ?_
  refine tt_get rfl md64 (by rfl) ?_
  refine tt_op rfl rfl ?_
  refine z_iald rfl md66 rfl (by omega) (by decide) ?_
  refine z_imul rfl ?_
  refine z_iadd rfl ?_
  refine tt_op rfl rfl ?_
  refine tt_get rfl md64 (by rfl) ?_
  refine tt_op rfl rfl ?_
  refine tt_get rfl md64 (by rfl) ?_
  refine tt_op rfl rfl ?_
  refine z_iald rfl md67 rfl (by omega) (by decide) ?_
  refine z_imul rfl ?_
  refine z_iadd rfl ?_
  refine tt_ireturn rfl rfl (by rfl) (Nat.le_of_ble_eq_true rfl) (Nat.le_of_ble_eq_true rfl) ?_
  exact ⟨rfl, rfl, rfl⟩
/-- one plane: bits, some above, some below -/
def tpB (P : Nat → V3) (m p q r : Nat) (k : Nat) : Nat := bts (fun k => decide (dot (crs P p q r) (P k) = dot (crs P p q r) (P p))) k
def tpU (P : Nat → V3) (m p q r : Nat) (k : Nat) : Bool := anB (fun k => decide (dot (crs P p q r) (P p) < dot (crs P p q r) (P k))) k
def tpD (P : Nat → V3) (m p q r : Nat) (k : Nat) : Bool := anB (fun k => decide (dot (crs P p q r) (P k) < dot (crs P p q r) (P p))) k
abbrev S5 : Type := Nat × Nat × (Nat → Nat) × (Nat → V3) × (Nat → Int)
def knB (fb : Nat → Nat) (v : Nat) (k : Nat) : Bool := anB (fun f => decide (fb f = v)) k
def tpY (P : Nat → V3) (m p q r : Nat) : Int := if tpU P m p q r m = true then -(gcd3 (crs P p q r) : Int) else (gcd3 (crs P p q r) : Int)
def tpF (P : Nat → V3) (m p q r fl : Nat) : Nat := if fl = 1 ∧ tpU P m p q r m = false ∧ tpD P m p q r m = false then 1 else 0
def tpS (P : Nat → V3) (m p q r : Nat) (s : S5) : S5 :=
  if crs P p q r = (0, 0, 0) then s else
  if tpU P m p q r m = tpD P m p q r m then (tpF P m p q r s.1, s.2) else
  if knB s.2.2.1 (tpB P m p q r m) s.2.1 = true then (tpF P m p q r s.1, s.2) else
  (tpF P m p q r s.1, s.2.1 + 1, nup s.2.2.1 s.2.1 (tpB P m p q r m), vup s.2.2.2.1 s.2.1 ((crs P p q r).1.tdiv (tpY P m p q r), (crs P p q r).2.1.tdiv (tpY P m p q r), (crs P p q r).2.2.tdiv (tpY P m p q r)), zup s.2.2.2.2 s.2.1 ((dot (crs P p q r) (P p)).tdiv (tpY P m p q r)))
/-- a face comes in -/
def tpN (P : Nat → V3) (m p q r : Nat) (s : S5) : Prop := crs P p q r ≠ (0, 0, 0) ∧ tpU P m p q r m ≠ tpD P m p q r m ∧ knB s.2.2.1 (tpB P m p q r m) s.2.1 = false
theorem vup_vup {nn : Nat → V3} {k : Nat} {u v : V3} : vup (vup nn k u) k v = vup nn k v := by
  funext j; unfold vup; split <;> rfl
theorem vup_at {nn : Nat → V3} {k : Nat} {u : V3} : vup nn k u k = u := by unfold vup; rw [if_pos rfl]
theorem gcd3_pos {u : V3} (h : u ≠ (0, 0, 0)) : 0 < gcd3 u := by
  obtain ⟨x, y, z⟩ := u
  unfold gcd3
  rcases Nat.eq_zero_or_pos (Int.gcd ((Int.gcd x y : Nat) : Int) z) with h0 | h0
  · obtain ⟨e1, e2⟩ := Int.gcd_eq_zero_iff.mp h0
    obtain ⟨e3, e4⟩ := Int.gcd_eq_zero_iff.mp (show Int.gcd x y = 0 by omega)
    exact absurd (by rw [e2, e3, e4]) h
  · exact h0
set_option maxRecDepth 10000 in
set_option maxHeartbeats 2000000 in
theorem m_tryPlane (hb : pbd P) (hm : m ≤ 14) {p q r : Nat} (hp : p < m) (hq : q < m) (hr : r < m) (hfa : fa ≤ 24) (hfb : ∀ j, j < 24 → fb j < 16384) (hN : tpN P m p q r (fl, fa, fb, nn, lv) → fa < 24) (hfl : fl = 0 ∨ fl = 1) : xCall xmX6_tryPlane 2 0 0 [.ref 64, zI p, zI q, zI r] n (mdH h m P bu tb fl co fa fb fs fr nn lv a fat w cm cX cY cZ cD su sv tu im rk ba go) (fun res n' h' => res = none ∧ n' = n ∧ h' = (mdH h m P bu tb ((tpS P m p q r (fl, fa, fb, nn, lv)).1) co ((tpS P m p q r (fl, fa, fb, nn, lv)).2.1) ((tpS P m p q r (fl, fa, fb, nn, lv)).2.2.1) fs fr ((tpS P m p q r (fl, fa, fb, nn, lv)).2.2.2.1) ((tpS P m p q r (fl, fa, fb, nn, lv)).2.2.2.2) (crs P p q r) fat w cm cX cY cZ cD su sv tu im rk ba go)) := by
  have hA := crs_bd hb (show p < 14 by omega) (show q < 14 by omega) (show r < 14 by omega)
  have hH : ∀ k, k < 14 → -192000 ≤ dot (crs P p q r) (P k) ∧ dot (crs P p q r) (P k) ≤ 192000 := fun k hk => by
    have := dot_bd hA (hb k hk); omega
  refine xCall.of xgX6_tryPlane rfl ?_
  refine tt_op rfl rfl ?_
  refine tt_op rfl rfl ?_
  refine tt_op rfl rfl ?_
  refine tt_op rfl rfl ?_
  refine tt_callV (M' := xmX6_cross) rfl rfl rfl md64 rfl (m_cross (show p < 14 by omega) (show q < 14 by omega) (show r < 14 by omega)) ?_
  rintro res n' h' ⟨rfl, rfl, rfl⟩
  unfold tpN tpS at *
  dsimp only at *
  have hTB : ∀ k, tpB P m p q r (k + 1) = tpB P m p q r k ||| (if dot (crs P p q r) (P k) = dot (crs P p q r) (P p) then 2 ^ k else 0) := fun k => by
    show bts _ k ||| _ = _
    simp only [decide_eq_true_eq]; rfl
  have hTU : ∀ k, tpU P m p q r (k + 1) = (tpU P m p q r k || decide (dot (crs P p q r) (P p) < dot (crs P p q r) (P k))) := fun k => rfl
  have hTD : ∀ k, tpD P m p q r (k + 1) = (tpD P m p q r k || decide (dot (crs P p q r) (P k) < dot (crs P p q r) (P p))) := fun k => rfl
  have hBl : tpB P m p q r m < 16384 := bts_lt _ m hm
  have hgp : crs P p q r ≠ (0, 0, 0) → 0 < gcd3 (crs P p q r) := gcd3_pos
  have hgl : gcd3 (crs P p q r) ≤ 10000 := by
    unfold gcd3
    have g1 := gcd_le (crs P p q r).1 (crs P p q r).2.1
    have g2 := gcd_le ((Int.gcd (crs P p q r).1 (crs P p q r).2.1 : Nat) : Int) (crs P p q r).2.2
    obtain ⟨⟨a1, a2⟩, ⟨b1, b2⟩, c1, c2⟩ := hA
    omega
  generalize hAe : crs P p q r = A at *
  obtain ⟨⟨a1, a2⟩, ⟨b1, b2⟩, c1, c2⟩ := hA
  have main : A ≠ (0, 0, 0) → xT xmX6_tryPlane (2, 0, 0, 0, 0) 29 [some (.ref 64), some (zI p), some (zI q), some (zI r), none, none, none, none, none, none] [] n' (mdH h m P bu tb fl co fa fb fs fr nn lv (A) fat w cm cX cY cZ cD su sv tu im rk ba go) (fun res n'' h' => res = none ∧ n'' = n' ∧ h' = (mdH h m P bu tb ((if A = (0, 0, 0) then (fl, fa, fb, nn, lv) else if tpU P m p q r m = tpD P m p q r m then (tpF P m p q r fl, fa, fb, nn, lv) else if knB fb (tpB P m p q r m) fa = true then (tpF P m p q r fl, fa, fb, nn, lv) else (tpF P m p q r fl, fa + 1, nup fb fa (tpB P m p q r m), vup nn fa (A.1.tdiv (tpY P m p q r), A.2.1.tdiv (tpY P m p q r), A.2.2.tdiv (tpY P m p q r)), zup lv fa ((dot A (P p)).tdiv (tpY P m p q r)))).1) co ((if A = (0, 0, 0) then (fl, fa, fb, nn, lv) else if tpU P m p q r m = tpD P m p q r m then (tpF P m p q r fl, fa, fb, nn, lv) else if knB fb (tpB P m p q r m) fa = true then (tpF P m p q r fl, fa, fb, nn, lv) else (tpF P m p q r fl, fa + 1, nup fb fa (tpB P m p q r m), vup nn fa (A.1.tdiv (tpY P m p q r), A.2.1.tdiv (tpY P m p q r), A.2.2.tdiv (tpY P m p q r)), zup lv fa ((dot A (P p)).tdiv (tpY P m p q r)))).2.1) ((if A = (0, 0, 0) then (fl, fa, fb, nn, lv) else if tpU P m p q r m = tpD P m p q r m then (tpF P m p q r fl, fa, fb, nn, lv) else if knB fb (tpB P m p q r m) fa = true then (tpF P m p q r fl, fa, fb, nn, lv) else (tpF P m p q r fl, fa + 1, nup fb fa (tpB P m p q r m), vup nn fa (A.1.tdiv (tpY P m p q r), A.2.1.tdiv (tpY P m p q r), A.2.2.tdiv (tpY P m p q r)), zup lv fa ((dot A (P p)).tdiv (tpY P m p q r)))).2.2.1) fs fr ((if A = (0, 0, 0) then (fl, fa, fb, nn, lv) else if tpU P m p q r m = tpD P m p q r m then (tpF P m p q r fl, fa, fb, nn, lv) else if knB fb (tpB P m p q r m) fa = true then (tpF P m p q r fl, fa, fb, nn, lv) else (tpF P m p q r fl, fa + 1, nup fb fa (tpB P m p q r m), vup nn fa (A.1.tdiv (tpY P m p q r), A.2.1.tdiv (tpY P m p q r), A.2.2.tdiv (tpY P m p q r)), zup lv fa ((dot A (P p)).tdiv (tpY P m p q r)))).2.2.2.1) ((if A = (0, 0, 0) then (fl, fa, fb, nn, lv) else if tpU P m p q r m = tpD P m p q r m then (tpF P m p q r fl, fa, fb, nn, lv) else if knB fb (tpB P m p q r m) fa = true then (tpF P m p q r fl, fa, fb, nn, lv) else (tpF P m p q r fl, fa + 1, nup fb fa (tpB P m p q r m), vup nn fa (A.1.tdiv (tpY P m p q r), A.2.1.tdiv (tpY P m p q r), A.2.2.tdiv (tpY P m p q r)), zup lv fa ((dot A (P p)).tdiv (tpY P m p q r)))).2.2.2.2) (A) fat w cm cX cY cZ cD su sv tu im rk ba go)) := by
    intro hA0
    rw [if_neg hA0]
    have hg := hgp hA0
    refine tt_op rfl rfl ?_
    refine tt_op rfl rfl ?_
    refine tt_pV rfl rfl rfl md64 rfl (m_height (show p < 14 by omega)) ?_
    have hHp := hH p (by omega)
    have loop : ∀ (j k : Nat) (l9 : Option Value) (Q : xQt), k + j = m → (∀ l9, xT xmX6_tryPlane (2, 0, 0, 0, 0) 129 [some (.ref 64), some (zI p), some (zI q), some (zI r), some (zI (dot A (P p))), some (zI (tpB P m p q r m : Nat)), some (zI (if tpU P m p q r m = true then 1 else 0)), some (zI (if tpD P m p q r m = true then 1 else 0)), some (zI m), l9] [] n' (mdH h m P bu tb fl co fa fb fs fr nn lv (A) fat w cm cX cY cZ cD su sv tu im rk ba go) Q) → xT xmX6_tryPlane (2, 0, 0, 0, 0) 48 [some (.ref 64), some (zI p), some (zI q), some (zI r), some (zI (dot A (P p))), some (zI (tpB P m p q r k : Nat)), some (zI (if tpU P m p q r k = true then 1 else 0)), some (zI (if tpD P m p q r k = true then 1 else 0)), some (zI k), l9] [] n' (mdH h m P bu tb fl co fa fb fs fr nn lv (A) fat w cm cX cY cZ cD su sv tu im rk ba go) Q := by
      intro j
      induction j with
      | zero =>
        intro k l9 Q hk hfin
        have : k = m := by omega
        subst this
        refine tt_op rfl rfl ?_
        refine tt_op rfl rfl ?_
        refine tt_get rfl md64 (by rfl) ?_
        refine z_icmp rfl (by first | assumption | (unfold R3; omega)) (by first | assumption | (unfold R3; omega)) (fun c => ?_) (fun c => absurd (by simp only [zcd] <;> omega) c)
        exact hfin l9
      | succ j ih =>
        intro k l9 Q hk hfin
        have hHk := hH k (by omega)
        have st3 : ∀ (u d : Bool), u = tpU P m p q r (k + 1) → d = tpD P m p q r (k + 1) → ∀ bt, bt = tpB P m p q r (k + 1) → xT xmX6_tryPlane (2, 0, 0, 0, 0) 123 [some (.ref 64), some (zI p), some (zI q), some (zI r), some (zI (dot A (P p))), some (zI (bt : Nat)), some (zI (if u = true then 1 else 0)), some (zI (if d = true then 1 else 0)), some (zI k), some (zI (dot A (P k)))] [] n' (mdH h m P bu tb fl co fa fb fs fr nn lv (A) fat w cm cX cY cZ cD su sv tu im rk ba go) Q := by
          intro u d hu hd bt hbt
          subst hu; subst hd; subst hbt
          refine z_iinc rfl rfl rfl ?_
          refine tt_goto rfl ?_
          exact ih (k + 1) _ Q (by omega) hfin
        have st2 : ∀ (u : Bool), u = tpU P m p q r (k + 1) → ∀ bt, bt = tpB P m p q r (k + 1) → xT xmX6_tryPlane (2, 0, 0, 0, 0) 104 [some (.ref 64), some (zI p), some (zI q), some (zI r), some (zI (dot A (P p))), some (zI (bt : Nat)), some (zI (if u = true then 1 else 0)), some (zI (if tpD P m p q r k = true then 1 else 0)), some (zI k), some (zI (dot A (P k)))] [] n' (mdH h m P bu tb fl co fa fb fs fr nn lv (A) fat w cm cX cY cZ cD su sv tu im rk ba go) Q := by
          intro u hu bt hbt
          refine tt_op rfl rfl ?_
          cases hd : tpD P m p q r k with
          | true =>
            simp only [if_true]
            refine z_if rfl (by first | assumption | (unfold R3; omega)) (fun c => ?_) (fun c => absurd (by simp only [zcd] <;> omega) c)
            refine tt_op rfl rfl ?_
            refine tt_goto rfl ?_
            refine tt_op rfl rfl ?_
            exact st3 u true hu (by rw [hTD, hd]; rfl) bt hbt
          | false =>
            simp only [Bool.false_eq_true, if_false]
            refine z_if rfl (by first | assumption | (unfold R3; omega)) (fun c => absurd c (by simp only [zcd] <;> omega)) (fun c => ?_)
            refine tt_op rfl rfl ?_
            refine tt_op rfl rfl ?_
            refine z_icmp rfl (by first | assumption | (unfold R3; omega)) (by first | assumption | (unfold R3; omega)) (fun cd => ?_) (fun cd => ?_)
            · simp only [zcd] at cd
              refine tt_op rfl rfl ?_
              refine tt_op rfl rfl ?_
              exact st3 u false hu (by rw [hTD, hd, decide_eq_false (by omega)]; rfl) bt hbt
            · simp only [zcd] at cd
              refine tt_op rfl rfl ?_
              refine tt_goto rfl ?_
              refine tt_op rfl rfl ?_
              exact st3 u true hu (by rw [hTD, hd, decide_eq_true (by omega)]; rfl) bt hbt
        have st1 : ∀ bt, bt = tpB P m p q r (k + 1) → xT xmX6_tryPlane (2, 0, 0, 0, 0) 85 [some (.ref 64), some (zI p), some (zI q), some (zI r), some (zI (dot A (P p))), some (zI (bt : Nat)), some (zI (if tpU P m p q r k = true then 1 else 0)), some (zI (if tpD P m p q r k = true then 1 else 0)), some (zI k), some (zI (dot A (P k)))] [] n' (mdH h m P bu tb fl co fa fb fs fr nn lv (A) fat w cm cX cY cZ cD su sv tu im rk ba go) Q := by
          intro bt hbt
          refine tt_op rfl rfl ?_
          cases hu : tpU P m p q r k with
          | true =>
            simp only [if_true]
            refine z_if rfl (by first | assumption | (unfold R3; omega)) (fun c => ?_) (fun c => absurd (by simp only [zcd] <;> omega) c)
            refine tt_op rfl rfl ?_
            refine tt_goto rfl ?_
            refine tt_op rfl rfl ?_
            exact st2 true (by rw [hTU, hu]; rfl) bt hbt
          | false =>
            simp only [Bool.false_eq_true, if_false]
            refine z_if rfl (by first | assumption | (unfold R3; omega)) (fun c => absurd c (by simp only [zcd] <;> omega)) (fun c => ?_)
            refine tt_op rfl rfl ?_
            refine tt_op rfl rfl ?_
            refine z_icmp rfl (by first | assumption | (unfold R3; omega)) (by first | assumption | (unfold R3; omega)) (fun cd => ?_) (fun cd => ?_)
            · simp only [zcd] at cd
              refine tt_op rfl rfl ?_
              refine tt_op rfl rfl ?_
              exact st2 false (by rw [hTU, hu, decide_eq_false (by omega)]; rfl) bt hbt
            · simp only [zcd] at cd
              refine tt_op rfl rfl ?_
              refine tt_goto rfl ?_
              refine tt_op rfl rfl ?_
              exact st2 true (by rw [hTU, hu, decide_eq_true (by omega)]; rfl) bt hbt
        refine tt_op rfl rfl ?_
        refine tt_op rfl rfl ?_
        refine tt_get rfl md64 (by rfl) ?_
        refine z_icmp rfl (by first | assumption | (unfold R3; omega)) (by first | assumption | (unfold R3; omega)) (fun c => absurd c (by simp only [zcd] <;> omega)) (fun c => ?_)
        refine tt_op rfl rfl ?_
        refine tt_op rfl rfl ?_
        refine tt_pV rfl rfl rfl md64 rfl (m_height (show k < 14 by omega)) ?_
        refine tt_op rfl rfl ?_
        refine tt_op rfl rfl ?_
        refine tt_op rfl rfl ?_
        refine tt_op rfl rfl ?_
        refine z_icmp rfl (by first | assumption | (unfold R3; omega)) (by first | assumption | (unfold R3; omega)) (fun ce => ?_) (fun ce => ?_)
        · simp only [zcd] at ce
          refine tt_op rfl rfl ?_
          refine z_ior (w := 0) rfl ?_
          refine tt_op rfl rfl ?_
          exact st1 _ (by rw [hTB, if_neg (by omega)])
        · simp only [zcd] at ce
          refine tt_op rfl rfl ?_
          refine tt_op rfl rfl ?_
          refine z_shl1 rfl (by omega) ?_
          refine tt_goto rfl ?_
          refine z_ior rfl ?_
          refine tt_op rfl rfl ?_
          exact st1 _ (by rw [hTB, if_pos (by omega)])
    refine tt_op rfl rfl ?_
    refine tt_op rfl rfl ?_
    refine tt_op rfl rfl ?_
    refine tt_op rfl rfl ?_
    refine tt_op rfl rfl ?_
    refine tt_op rfl rfl ?_
    refine tt_op rfl rfl ?_
    refine tt_op rfl rfl ?_
    refine tt_op rfl rfl ?_
    refine loop m 0 none _ (by omega) (fun l9 => ?_)
    clear loop
    generalize hu : tpU P m p q r m = u at *
    generalize hd : tpD P m p q r m = d at *
    generalize hbt : tpB P m p q r m = bt at *
    have rest : ∀ f', f' = tpF P m p q r fl → xT xmX6_tryPlane (2, 0, 0, 0, 0) 155 [some (.ref 64), some (zI p), some (zI q), some (zI r), some (zI (dot A (P p))), some (zI (bt : Nat)), some (zI (if u = true then 1 else 0)), some (zI (if d = true then 1 else 0)), some (zI m), l9] [] n' (mdH h m P bu tb (f') co fa fb fs fr nn lv (A) fat w cm cX cY cZ cD su sv tu im rk ba go) (fun res n'' h' => res = none ∧ n'' = n' ∧ h' = (mdH h m P bu tb ((if u = d then (tpF P m p q r fl, fa, fb, nn, lv) else if knB fb bt fa = true then (tpF P m p q r fl, fa, fb, nn, lv) else (tpF P m p q r fl, fa + 1, nup fb fa bt, vup nn fa (A.1.tdiv (tpY P m p q r), A.2.1.tdiv (tpY P m p q r), A.2.2.tdiv (tpY P m p q r)), zup lv fa ((dot A (P p)).tdiv (tpY P m p q r)))).1) co ((if u = d then (tpF P m p q r fl, fa, fb, nn, lv) else if knB fb bt fa = true then (tpF P m p q r fl, fa, fb, nn, lv) else (tpF P m p q r fl, fa + 1, nup fb fa bt, vup nn fa (A.1.tdiv (tpY P m p q r), A.2.1.tdiv (tpY P m p q r), A.2.2.tdiv (tpY P m p q r)), zup lv fa ((dot A (P p)).tdiv (tpY P m p q r)))).2.1) ((if u = d then (tpF P m p q r fl, fa, fb, nn, lv) else if knB fb bt fa = true then (tpF P m p q r fl, fa, fb, nn, lv) else (tpF P m p q r fl, fa + 1, nup fb fa bt, vup nn fa (A.1.tdiv (tpY P m p q r), A.2.1.tdiv (tpY P m p q r), A.2.2.tdiv (tpY P m p q r)), zup lv fa ((dot A (P p)).tdiv (tpY P m p q r)))).2.2.1) fs fr ((if u = d then (tpF P m p q r fl, fa, fb, nn, lv) else if knB fb bt fa = true then (tpF P m p q r fl, fa, fb, nn, lv) else (tpF P m p q r fl, fa + 1, nup fb fa bt, vup nn fa (A.1.tdiv (tpY P m p q r), A.2.1.tdiv (tpY P m p q r), A.2.2.tdiv (tpY P m p q r)), zup lv fa ((dot A (P p)).tdiv (tpY P m p q r)))).2.2.2.1) ((if u = d then (tpF P m p q r fl, fa, fb, nn, lv) else if knB fb bt fa = true then (tpF P m p q r fl, fa, fb, nn, lv) else (tpF P m p q r fl, fa + 1, nup fb fa bt, vup nn fa (A.1.tdiv (tpY P m p q r), A.2.1.tdiv (tpY P m p q r), A.2.2.tdiv (tpY P m p q r)), zup lv fa ((dot A (P p)).tdiv (tpY P m p q r)))).2.2.2.2) (A) fat w cm cX cY cZ cD su sv tu im rk ba go)) := by
      intro f' hf'
      subst hf'
      refine tt_op rfl rfl ?_
      refine tt_op rfl rfl ?_
      by_cases hud : u = d
      · rw [if_pos hud]
        refine z_icmp rfl (z_b01 _) (z_b01 _) (fun c => absurd c (by rw [hud]; simp [zcd])) (fun c => ?_)
        refine tt_return rfl rfl (Nat.le_of_ble_eq_true rfl) (Nat.le_of_ble_eq_true rfl) ?_
        exact ⟨rfl, rfl, rfl⟩
      rw [if_neg hud]
      refine z_icmp rfl (z_b01 _) (z_b01 _) (fun c => ?_) (fun c => absurd (by cases u <;> cases d <;> simp_all [zcd]) c)
      refine tt_op rfl rfl ?_
      refine tt_op rfl rfl ?_
      have look : ∀ (j f : Nat), f + j = fa → knB fb bt f = false → xT xmX6_tryPlane (2, 0, 0, 0, 0) 166 [some (.ref 64), some (zI p), some (zI q), some (zI r), some (zI (dot A (P p))), some (zI (bt : Nat)), some (zI (if u = true then 1 else 0)), some (zI (if d = true then 1 else 0)), some (zI f), l9] [] n' (mdH h m P bu tb (tpF P m p q r fl) co fa fb fs fr nn lv (A) fat w cm cX cY cZ cD su sv tu im rk ba go) (fun res n'' h' => res = none ∧ n'' = n' ∧ h' = (mdH h m P bu tb ((if knB fb bt fa = true then (tpF P m p q r fl, fa, fb, nn, lv) else (tpF P m p q r fl, fa + 1, nup fb fa bt, vup nn fa (A.1.tdiv (tpY P m p q r), A.2.1.tdiv (tpY P m p q r), A.2.2.tdiv (tpY P m p q r)), zup lv fa ((dot A (P p)).tdiv (tpY P m p q r)))).1) co ((if knB fb bt fa = true then (tpF P m p q r fl, fa, fb, nn, lv) else (tpF P m p q r fl, fa + 1, nup fb fa bt, vup nn fa (A.1.tdiv (tpY P m p q r), A.2.1.tdiv (tpY P m p q r), A.2.2.tdiv (tpY P m p q r)), zup lv fa ((dot A (P p)).tdiv (tpY P m p q r)))).2.1) ((if knB fb bt fa = true then (tpF P m p q r fl, fa, fb, nn, lv) else (tpF P m p q r fl, fa + 1, nup fb fa bt, vup nn fa (A.1.tdiv (tpY P m p q r), A.2.1.tdiv (tpY P m p q r), A.2.2.tdiv (tpY P m p q r)), zup lv fa ((dot A (P p)).tdiv (tpY P m p q r)))).2.2.1) fs fr ((if knB fb bt fa = true then (tpF P m p q r fl, fa, fb, nn, lv) else (tpF P m p q r fl, fa + 1, nup fb fa bt, vup nn fa (A.1.tdiv (tpY P m p q r), A.2.1.tdiv (tpY P m p q r), A.2.2.tdiv (tpY P m p q r)), zup lv fa ((dot A (P p)).tdiv (tpY P m p q r)))).2.2.2.1) ((if knB fb bt fa = true then (tpF P m p q r fl, fa, fb, nn, lv) else (tpF P m p q r fl, fa + 1, nup fb fa bt, vup nn fa (A.1.tdiv (tpY P m p q r), A.2.1.tdiv (tpY P m p q r), A.2.2.tdiv (tpY P m p q r)), zup lv fa ((dot A (P p)).tdiv (tpY P m p q r)))).2.2.2.2) (A) fat w cm cX cY cZ cD su sv tu im rk ba go)) := by
        intro j
        induction j with
        | zero =>
          intro f hf hk
          have : f = fa := by omega
          subst this
          have hN' := hN ⟨hA0, hud, hk⟩
          rw [hk]
          simp only [Bool.false_eq_true, if_false]
          refine tt_op rfl rfl ?_
          refine tt_op rfl rfl ?_
          refine tt_get rfl md64 (by rfl) ?_
          refine z_icmp rfl (by first | assumption | (unfold R3; omega)) (by first | assumption | (unfold R3; omega)) (fun c => ?_) (fun c => absurd (by simp only [zcd] <;> omega) c)
          refine tt_op rfl rfl ?_
          refine tt_get rfl md64 (by rfl) ?_
          refine tt_op rfl rfl ?_
          refine tt_get rfl md64 (by rfl) ?_
          refine tt_pS rfl rfl rfl rfl (m_divisor _ _ ⟨by omega, by omega⟩ ⟨by omega, by omega⟩ _ _) ?_
          refine tt_op rfl rfl ?_
          refine tt_get rfl md64 (by rfl) ?_
          have g1 := gcd_le A.1 A.2.1
          refine tt_pS rfl rfl rfl rfl (m_divisor _ _ ⟨by omega, by omega⟩ ⟨by omega, by omega⟩ _ _) ?_
          have eg : Int.gcd ((Int.gcd A.1 A.2.1 : Nat) : Int) A.2.2 = gcd3 A := rfl
          rw [eg]
          have fin : ∀ (y : Int), y = tpY P m p q r → y ≠ 0 → (-10000 ≤ y ∧ y ≤ 10000) → xT xmX6_tryPlane (2, 0, 0, 0, 0) 229 [some (.ref 64), some (zI p), some (zI q), some (zI r), some (zI (dot A (P p))), some (zI (bt : Nat)), some (zI (if u = true then 1 else 0)), some (zI (if d = true then 1 else 0)), some (zI y), l9] [] n' (mdH h m P bu tb (tpF P m p q r fl) co (f) fb fs fr nn lv (A) fat w cm cX cY cZ cD su sv tu im rk ba go) (fun res n'' h' => res = none ∧ n'' = n' ∧ h' = (mdH h m P bu tb (tpF P m p q r fl) co (f + 1) (nup fb f bt) fs fr (vup nn f (A.1.tdiv (tpY P m p q r), A.2.1.tdiv (tpY P m p q r), A.2.2.tdiv (tpY P m p q r))) (zup lv f ((dot A (P p)).tdiv (tpY P m p q r))) (A) fat w cm cX cY cZ cD su sv tu im rk ba go)) := by
            intro y hy hy0 hyb
            rw [← hy]
            refine tt_op rfl rfl ?_
            refine tt_get rfl md64 (by rfl) ?_
            refine tt_op rfl rfl ?_
            refine tt_get rfl md64 (by rfl) ?_
            refine tt_op rfl rfl ?_
            refine md_s68 rfl rfl (by omega) ?_
            refine tt_op rfl rfl ?_
            refine tt_get rfl md64 (by rfl) ?_
            refine tt_op rfl rfl ?_
            refine tt_get rfl md64 (by rfl) ?_
            refine tt_op rfl rfl ?_
            refine tt_get rfl md64 (by rfl) ?_
            refine tt_op rfl rfl ?_
            refine z_idiv rfl hy0 ⟨by omega, by omega⟩ (by omega) ⟨by omega, by omega⟩ ?_
            refine md_s71 rfl rfl (by omega) ?_
            refine tt_op rfl rfl ?_
            refine tt_get rfl md64 (by rfl) ?_
            refine tt_op rfl rfl ?_
            refine tt_get rfl md64 (by rfl) ?_
            refine tt_op rfl rfl ?_
            refine tt_get rfl md64 (by rfl) ?_
            refine tt_op rfl rfl ?_
            refine z_idiv rfl hy0 ⟨by omega, by omega⟩ (by omega) ⟨by omega, by omega⟩ ?_
            refine md_s72 rfl rfl (by omega) ?_
            refine tt_op rfl rfl ?_
            refine tt_get rfl md64 (by rfl) ?_
            refine tt_op rfl rfl ?_
            refine tt_get rfl md64 (by rfl) ?_
            refine tt_op rfl rfl ?_
            refine tt_get rfl md64 (by rfl) ?_
            refine tt_op rfl rfl ?_
            refine z_idiv rfl hy0 ⟨by omega, by omega⟩ (by omega) ⟨by omega, by omega⟩ ?_
            refine md_s73 rfl rfl (by omega) ?_
            refine tt_op rfl rfl ?_
            refine tt_get rfl md64 (by rfl) ?_
            refine tt_op rfl rfl ?_
            refine tt_get rfl md64 (by rfl) ?_
            refine tt_op rfl rfl ?_
            refine tt_op rfl rfl ?_
            refine z_idiv rfl hy0 ⟨by omega, by omega⟩ (by omega) ⟨by omega, by omega⟩ ?_
            refine md_s74 rfl rfl (by omega) ?_
            refine tt_op rfl rfl ?_
            refine tt_op rfl rfl ?_
            refine tt_get rfl md64 (by rfl) ?_
            refine tt_op rfl rfl ?_
            refine z_iadd rfl ?_
            refine md_pfa (x := f + 1) rfl (by decide) ?_
            refine tt_return rfl rfl (Nat.le_of_ble_eq_true rfl) (Nat.le_of_ble_eq_true rfl) ?_
            refine ⟨rfl, rfl, ?_⟩
            simp only [vup_vup, vup_at]
          refine tt_op rfl rfl ?_
          refine tt_op rfl rfl ?_
          refine z_if rfl (z_b01 _) (fun c => ?_) (fun c => ?_)
          · have hu' : u = false := by cases u <;> simp_all [zcd]
            refine tt_op rfl rfl ?_
            refine tt_op rfl rfl ?_
            exact fin _ (by unfold tpY; rw [hu, hu', hAe]; simp) (by omega) ⟨by omega, by omega⟩
          · have hu' : u = true := by cases u <;> simp_all [zcd]
            refine tt_op rfl rfl ?_
            refine z_ineg rfl ?_
            refine tt_goto rfl ?_
            refine tt_op rfl rfl ?_
            exact fin _ (by unfold tpY; rw [hu, hu', hAe]; simp) (by omega) ⟨by omega, by omega⟩
        | succ j ih =>
          intro f hf hk
          have hbf := hfb f (by omega)
          refine tt_op rfl rfl ?_
          refine tt_op rfl rfl ?_
          refine tt_get rfl md64 (by rfl) ?_
          refine z_icmp rfl (by first | assumption | (unfold R3; omega)) (by first | assumption | (unfold R3; omega)) (fun c => absurd c (by simp only [zcd] <;> omega)) (fun c => ?_)
          refine tt_op rfl rfl ?_
          refine tt_get rfl md64 (by rfl) ?_
          refine tt_op rfl rfl ?_
          refine z_iald rfl md68 rfl (by omega) (by decide) ?_
          refine tt_op rfl rfl ?_
          refine z_icmp rfl (by first | assumption | (unfold R3; omega)) (by first | assumption | (unfold R3; omega)) (fun ce => ?_) (fun ce => ?_)
          · simp only [zcd] at ce
            refine z_iinc rfl rfl rfl ?_
            refine tt_goto rfl ?_
            refine ih (f + 1) (by omega) ?_
            show (anB (fun f => decide (fb f = bt)) f || decide (fb f = bt)) = false
            have : anB (fun f => decide (fb f = bt)) f = false := hk
            rw [this, decide_eq_false (by omega)]
            rfl
          · simp only [zcd] at ce
            have hkk : ∀ g, f < g → knB fb bt g = true := by
              intro g
              induction g with
              | zero => intro h; exact absurd h (by omega)
              | succ g ihg =>
                intro h
                show (anB (fun f => decide (fb f = bt)) g || decide (fb g = bt)) = true
                by_cases hg : f = g
                · subst hg
                  rw [decide_eq_true (by omega)]; simp
                · have : anB (fun f => decide (fb f = bt)) g = true := ihg (by omega)
                  rw [this]; rfl
            rw [if_pos (hkk fa (by omega))]
            refine tt_return rfl rfl (Nat.le_of_ble_eq_true rfl) (Nat.le_of_ble_eq_true rfl) ?_
            exact ⟨rfl, rfl, rfl⟩
      exact look fa 0 (by omega) rfl
    refine tt_op rfl rfl ?_
    refine tt_op rfl rfl ?_
    refine tt_get rfl md64 (by rfl) ?_
    have put0 : ∀ x : Nat, (x = 0 ∨ x = 1) → x = tpF P m p q r fl → xT xmX6_tryPlane (2, 0, 0, 0, 0) 152 [some (.ref 64), some (zI p), some (zI q), some (zI r), some (zI (dot A (P p))), some (zI (bt : Nat)), some (zI (if u = true then 1 else 0)), some (zI (if d = true then 1 else 0)), some (zI m), l9] [zI x, .ref 64] n' (mdH h m P bu tb fl co fa fb fs fr nn lv (A) fat w cm cX cY cZ cD su sv tu im rk ba go) _ := fun x hx hxe => md_pfl hx rfl (by decide) (rest x hxe)
    have hF : tpF P m p q r fl = if fl = 1 ∧ u = false ∧ d = false then 1 else 0 := by unfold tpF; rw [hu, hd]
    refine z_if rfl (by first | assumption | (unfold R3; omega)) (fun c1 => ?_) (fun c1 => ?_)
    · simp only [zcd] at c1
      refine tt_op rfl rfl ?_
      exact put0 0 (Or.inl rfl) (by rw [hF, if_neg (by omega)])
    simp only [zcd] at c1
    refine tt_op rfl rfl ?_
    refine z_if rfl (z_b01 _) (fun c => ?_) (fun c => ?_)
    · have hu' : u = true := by cases u <;> simp_all [zcd]
      refine tt_op rfl rfl ?_
      exact put0 0 (Or.inl rfl) (by rw [hF, if_neg (by rw [hu']; simp)])
    have hu' : u = false := by cases u <;> simp_all [zcd]
    refine tt_op rfl rfl ?_
    refine z_if rfl (z_b01 _) (fun c => ?_) (fun c => ?_)
    · have hd' : d = true := by cases d <;> simp_all [zcd]
      refine tt_op rfl rfl ?_
      exact put0 0 (Or.inl rfl) (by rw [hF, if_neg (by rw [hd']; simp)])
    have hd' : d = false := by cases d <;> simp_all [zcd]
    refine tt_op rfl rfl ?_
    refine tt_goto rfl ?_
    exact put0 1 (Or.inr rfl) (by rw [hF, if_pos ⟨by omega, hu', hd'⟩])
  refine tt_op rfl rfl ?_
  refine tt_get rfl md64 (by rfl) ?_
  refine z_if rfl (by first | assumption | (unfold R3; omega)) (fun c1 => ?_) (fun c1 => ?_)
  · simp only [zcd] at c1
    exact main (fun z => c1 (by rw [z]))
  simp only [zcd] at c1
  refine tt_op rfl rfl ?_
  refine tt_get rfl md64 (by rfl) ?_
  refine z_if rfl (by first | assumption | (unfold R3; omega)) (fun c2 => ?_) (fun c2 => ?_)
  · simp only [zcd] at c2
    exact main (fun z => c2 (by rw [z]))
  simp only [zcd] at c2
  refine tt_op rfl rfl ?_
  refine tt_get rfl md64 (by rfl) ?_
  refine z_if rfl (by first | assumption | (unfold R3; omega)) (fun c3 => ?_) (fun c3 => ?_)
  · simp only [zcd] at c3
    exact main (fun z => c3 (by rw [z]))
  simp only [zcd] at c3
  have e0 : A = (0, 0, 0) := by
    obtain ⟨x, y, z⟩ := A
    dsimp only at c1 c2 c3
    rw [show x = 0 by omega, show y = 0 by omega, show z = 0 by omega]
  refine tt_return rfl rfl (Nat.le_of_ble_eq_true rfl) (Nat.le_of_ble_eq_true rfl) ?_
  refine ⟨rfl, rfl, ?_⟩
  rw [if_pos e0]
end M1
