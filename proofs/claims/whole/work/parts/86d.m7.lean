/-! The reference: weights, middles, places -/
theorem wPt_crs (P : Nat → V3) (p q r : Nat) : dot (crs P p q r) (P p) - dot (crs P p q r) (P 0) = wPt P p q r := by
  show _ = -(bxs P p q r 0)
  rw [bxs_fun]
  show dot (crs P p q r) (P p) - dot (crs P p q r) (P 0) = -(dot (crs P p q r) (P 0) - dot (crs P p q r) (P p))
  omega
/-- so far: f faces whole, and j triangles of the next -/
def wSo (P : Nat → V3) (fr fs : Nat → Nat) (g : Nat → Nat → Nat → Int) (f j : Nat) : Int := smI (fun f => TS g (fun k => fr (14 * f + k)) (fs f)) f + smI (fun t => g (fr (14 * f)) (fr (14 * f + (t + 1))) (fr (14 * f + (t + 2)))) j
abbrev wSq (P : Nat → V3) (fr fs : Nat → Nat) (f j : Nat) : Int × V3 := (wSo P fr fs (wPt P) f j, wSo P fr fs (wMx P 0) f j, wSo P fr fs (wMx P 1) f j, wSo P fr fs (wMx P 2) f j)
theorem wSo_next (P : Nat → V3) (fr fs : Nat → Nat) (g : Nat → Nat → Nat → Int) (f : Nat) : wSo P fr fs g f (fs f - 2) = wSo P fr fs g (f + 1) 0 := by
  show _ + _ = (_ + _) + 0
  rw [Int.add_zero]; rfl
theorem wMx_ax (P : Nat → V3) (p q r : Nat) : wMx P 0 p q r = wPt P p q r * ((P p).1 + (P q).1 + (P r).1 + (P 0).1) ∧ wMx P 1 p q r = wPt P p q r * ((P p).2.1 + (P q).2.1 + (P r).2.1 + (P 0).2.1) ∧ wMx P 2 p q r = wPt P p q r * ((P p).2.2 + (P q).2.2 + (P r).2.2 + (P 0).2.2) := ⟨rfl, rfl, rfl⟩
section M7
variable {h : xHp} {m : Nat} {P : Nat → V3} {bu tb fl co fa : Nat} {fb fs fr : Nat → Nat} {nn : Nat → V3} {lv : Nat → Int} {a : V3} {fat : Nat → Nat} {w : Int × V3} {cm : Int} {cX cY cZ cD su sv : Nat → Int} {tu : Nat} {im : Nat → Int} {rk ba : Nat → Nat} {go : Nat → Int}
variable {n : Nat} {hh : xHp}
set_option maxRecDepth 10000 in
theorem m_tetra (hb : pbd P) {p q r : Nat} (hp : p < 14) (hq : q < 14) (hr : r < 14) : xCall xmX6_tetrahedron 2 0 0 [.ref 64, zI p, zI q, zI r] n (mdH h m P bu tb fl co fa fb fs fr nn lv a fat w cm cX cY cZ cD su sv tu im rk ba go) (fun res n' h' => res = none ∧ n' = n ∧ h' = (mdH h m P bu tb fl co fa fb fs fr nn lv (crs P p q r) fat ((w.1 + wPt P p q r, w.2.1 + wMx P 0 p q r, w.2.2.1 + wMx P 1 p q r, w.2.2.2 + wMx P 2 p q r)) cm cX cY cZ cD su sv tu im rk ba go)) := by
  have hA := crs_bd hb hp hq hr
  have h1 := dot_bd hA (hb p hp)
  have h2 := dot_bd hA (hb 0 (by omega))
  obtain ⟨⟨p1, p2⟩, ⟨p3, p4⟩, p5, p6⟩ := hb p hp
  obtain ⟨⟨q1, q2⟩, ⟨q3, q4⟩, q5, q6⟩ := hb q hq
  obtain ⟨⟨r1, r2⟩, ⟨r3, r4⟩, r5, r6⟩ := hb r hr
  obtain ⟨⟨o1, o2⟩, ⟨o3, o4⟩, o5, o6⟩ := hb 0 (by omega)
  refine xCall.of xgX6_tetrahedron rfl ?_
  refine tt_op rfl rfl ?_
  refine tt_op rfl rfl ?_
  refine tt_op rfl rfl ?_
  refine tt_op rfl rfl ?_
  refine tt_callV (M' := xmX6_cross) rfl rfl rfl md64 rfl (m_cross hp hq hr) ?_
  rintro res n' h' ⟨rfl, rfl, rfl⟩
  refine tt_op rfl rfl ?_
  refine tt_op rfl rfl ?_
  refine tt_pV rfl rfl rfl md64 rfl (m_height hp) ?_
  refine tt_op rfl rfl ?_
  refine tt_op rfl rfl ?_
  refine tt_pV rfl rfl rfl md64 rfl (m_height (p := 0) (by omega)) ?_
  refine z_isub rfl ?_
  rw [wPt_crs]
  have hw := wPt_crs P p q r
  have hR : R3 (wPt P p q r) := ⟨by omega, by omega⟩
  refine z_il rfl hR ?_
  refine tt_op rfl rfl ?_
  refine tt_op rfl rfl ?_
  refine tt_op rfl rfl ?_
  refine tt_get rfl md64 (by rfl) ?_
  refine tt_op rfl rfl ?_
  refine z_ladd rfl ?_
  refine md_psix rfl (by decide) ?_
  refine tt_op rfl rfl ?_
  refine tt_op rfl rfl ?_
  refine tt_get rfl md64 (by rfl) ?_
  refine tt_op rfl rfl ?_
  refine tt_op rfl rfl ?_
  refine tt_get rfl md64 (by rfl) ?_
  refine tt_op rfl rfl ?_
  refine z_iald (j := 0) rfl md65 rfl (by decide) (by decide) ?_
  refine tt_op rfl rfl ?_
  refine tt_get rfl md64 (by rfl) ?_
  refine tt_op rfl rfl ?_
  refine z_iald rfl md65 rfl (by omega) (by decide) ?_
  refine z_iadd rfl ?_
  refine tt_op rfl rfl ?_
  refine tt_get rfl md64 (by rfl) ?_
  refine tt_op rfl rfl ?_
  refine z_iald rfl md65 rfl (by omega) (by decide) ?_
  refine z_iadd rfl ?_
  refine tt_op rfl rfl ?_
  refine tt_get rfl md64 (by rfl) ?_
  refine tt_op rfl rfl ?_
  refine z_iald rfl md65 rfl (by omega) (by decide) ?_
  refine z_iadd rfl ?_
  refine z_il rfl (by first | assumption | (unfold R3; omega)) ?_
  refine z_lmul rfl ?_
  refine z_ladd rfl ?_
  refine md_psx rfl (by decide) ?_
  refine tt_op rfl rfl ?_
  refine tt_op rfl rfl ?_
  refine tt_get rfl md64 (by rfl) ?_
  refine tt_op rfl rfl ?_
  refine tt_op rfl rfl ?_
  refine tt_get rfl md64 (by rfl) ?_
  refine tt_op rfl rfl ?_
  refine z_iald (j := 0) rfl md66 rfl (by decide) (by decide) ?_
  refine tt_op rfl rfl ?_
  refine tt_get rfl md64 (by rfl) ?_
  refine tt_op rfl rfl ?_
  refine z_iald rfl md66 rfl (by omega) (by decide) ?_
  refine z_iadd rfl ?_
  refine tt_op rfl rfl ?_
  refine tt_get rfl md64 (by rfl) ?_
  refine tt_op rfl rfl ?_
  refine z_iald rfl md66 rfl (by omega) (by decide) ?_
  refine z_iadd rfl ?_
  refine tt_op rfl rfl ?_
  refine tt_get rfl md64 (by rfl) ?_
  refine tt_op rfl rfl ?_
  refine z_iald rfl md66 rfl (by omega) (by decide) ?_
  refine z_iadd rfl ?_
  refine z_il rfl (by first | assumption | (unfold R3; omega)) ?_
  refine z_lmul rfl ?_
  refine z_ladd rfl ?_
  refine md_psy rfl (by decide) ?_
  refine tt_op rfl rfl ?_
  refine tt_op rfl rfl ?_
  refine tt_get rfl md64 (by rfl) ?_
  refine tt_op rfl rfl ?_
  refine tt_op rfl rfl ?_
  refine tt_get rfl md64 (by rfl) ?_
  refine tt_op rfl rfl ?_
  refine z_iald (j := 0) rfl md67 rfl (by decide) (by decide) ?_
  refine tt_op rfl rfl ?_
  refine tt_get rfl md64 (by rfl) ?_
  refine tt_op rfl rfl ?_
  refine z_iald rfl md67 rfl (by omega) (by decide) ?_
  refine z_iadd rfl ?_
  refine tt_op rfl rfl ?_
  refine tt_get rfl md64 (by rfl) ?_
  refine tt_op rfl rfl ?_
  refine z_iald rfl md67 rfl (by omega) (by decide) ?_
  refine z_iadd rfl ?_
  refine tt_op rfl rfl ?_
  refine tt_get rfl md64 (by rfl) ?_
  refine tt_op rfl rfl ?_
  refine z_iald rfl md67 rfl (by omega) (by decide) ?_
  refine z_iadd rfl ?_
  refine z_il rfl (by first | assumption | (unfold R3; omega)) ?_
  refine z_lmul rfl ?_
  refine z_ladd rfl ?_
  refine md_psz rfl (by decide) ?_
  refine tt_return rfl rfl (Nat.le_of_ble_eq_true rfl) (Nat.le_of_ble_eq_true rfl) ?_
  obtain ⟨m0, m1, m2⟩ := wMx_ax P p q r
  rw [m0, m1, m2]
  refine ⟨rfl, rfl, ?_⟩
  have c1 : (P 0).1 + (P p).1 + (P q).1 + (P r).1 = (P p).1 + (P q).1 + (P r).1 + (P 0).1 := by omega
  have c2 : (P 0).2.1 + (P p).2.1 + (P q).2.1 + (P r).2.1 = (P p).2.1 + (P q).2.1 + (P r).2.1 + (P 0).2.1 := by omega
  have c3 : (P 0).2.2 + (P p).2.2 + (P q).2.2 + (P r).2.2 = (P p).2.2 + (P q).2.2 + (P r).2.2 + (P 0).2.2 := by omega
  rw [c1, c2, c3]
set_option maxRecDepth 10000 in
set_option maxHeartbeats 1000000 in
theorem m_weigh (hS : SF P m (fl, co, fa, fb, fs, fr, nn, lv, fat)) : xCall xmX6_weigh 3 0 0 [.ref 64] n (mdH h m P bu tb fl co fa fb fs fr nn lv a fat w cm cX cY cZ cD su sv tu im rk ba go) (fun res n' h' => res = none ∧ n' = n ∧ ∃ a', h' = (mdH h m P bu tb fl co fa fb fs fr nn lv (a') fat ((hSix P m, hMo P m 0, hMo P m 1, hMo P m 2)) cm cX cY cZ cD su sv tu im rk ba go)) := by
  obtain ⟨_, ⟨hm, hb, hD⟩, hs, hA, _, hbd, hmt, hrn⟩ := SF_u hS
  have h24 : fa ≤ 24 := hA.1
  have hb' : ∀ j, j < m → vbd 20 (P j) := fun j hj => hb j (by omega)
  have hmt' : mtc P m (fl, co, fa, fb, fs, fr, nn, lv, fat) := hmt
  have fin : wSq P fr fs fa 0 = (hSix P m, hMo P m 0, hMo P m 1, hMo P m 2) := by
    have s1 := sum_mtc hm hb' hD hmt'
    have e : ∀ g, wSo P fr fs g fa 0 = smI (fun i => TS g (fRow P m i) (fLen P m i)) (blF P m).1 := fun g => by
      show _ + 0 = _
      rw [Int.add_zero]; exact s1 g
    simp only [wSq]
    rw [e, e, e, e, hSix_sum, hMo_sum P m 0 (by omega), hMo_sum P m 1 (by omega), hMo_sum P m 2 (by omega)]
  refine xCall.of xgX6_weigh rfl ?_
  refine tt_op rfl rfl ?_
  refine tt_op rfl rfl ?_
  refine md_psix (x := 0) rfl (by decide) ?_
  refine tt_op rfl rfl ?_
  refine tt_op rfl rfl ?_
  refine md_psx (x := 0) rfl (by decide) ?_
  refine tt_op rfl rfl ?_
  refine tt_op rfl rfl ?_
  refine md_psy (x := 0) rfl (by decide) ?_
  refine tt_op rfl rfl ?_
  refine tt_op rfl rfl ?_
  refine md_psz (x := 0) rfl (by decide) ?_
  refine tt_op rfl rfl ?_
  refine tt_op rfl rfl ?_
  have loop : ∀ (j f : Nat) (a : V3) (l2 : Option Value), f + j = fa → xT xmX6_weigh (3, 0, 0, 0, 0) 22 [some (.ref 64), some (zI f), l2] [] n (mdH h m P bu tb fl co fa fb fs fr nn lv a fat (wSq P fr fs f 0) cm cX cY cZ cD su sv tu im rk ba go) (fun res n' h' => res = none ∧ n' = n ∧ ∃ a', h' = (mdH h m P bu tb fl co fa fb fs fr nn lv (a') fat ((hSix P m, hMo P m 0, hMo P m 1, hMo P m 2)) cm cX cY cZ cD su sv tu im rk ba go)) := by
    intro j
    induction j with
    | zero =>
      intro f a l2 hf
      have : f = fa := by omega
      subst this
      refine tt_op rfl rfl ?_
      refine tt_op rfl rfl ?_
      refine tt_get rfl md64 (by rfl) ?_
      refine z_icmp rfl (by first | assumption | (unfold R3; omega)) (by first | assumption | (unfold R3; omega)) (fun c => ?_) (fun c => absurd (by simp only [zcd] <;> omega) c)
      refine tt_return rfl rfl (Nat.le_of_ble_eq_true rfl) (Nat.le_of_ble_eq_true rfl) ?_
      rw [fin]
      exact ⟨rfl, rfl, a, rfl⟩
    | succ j ih =>
      intro f a l2 hf
      have hr := hrn f (by omega)
      have h3 := hr.1
      refine tt_op rfl rfl ?_
      refine tt_op rfl rfl ?_
      refine tt_get rfl md64 (by rfl) ?_
      refine z_icmp rfl (by first | assumption | (unfold R3; omega)) (by first | assumption | (unfold R3; omega)) (fun c => absurd c (by simp only [zcd] <;> omega)) (fun c => ?_)
      refine tt_op rfl rfl ?_
      refine tt_op rfl rfl ?_
      have inn : ∀ (j k : Nat) (a : V3), k + 2 + j = fs f → xT xmX6_weigh (3, 0, 0, 0, 0) 32 [some (.ref 64), some (zI f), some (zI (k + 2 : Nat))] [] n (mdH h m P bu tb fl co fa fb fs fr nn lv a fat (wSq P fr fs f k) cm cX cY cZ cD su sv tu im rk ba go) (fun res n' h' => res = none ∧ n' = n ∧ ∃ a', h' = (mdH h m P bu tb fl co fa fb fs fr nn lv (a') fat ((hSix P m, hMo P m 0, hMo P m 1, hMo P m 2)) cm cX cY cZ cD su sv tu im rk ba go)) := by
        intro j
        induction j with
        | zero =>
          intro k a hk
          refine tt_op rfl rfl ?_
          refine tt_op rfl rfl ?_
          refine tt_get rfl md64 (by rfl) ?_
          refine tt_op rfl rfl ?_
          refine z_iald rfl md69 rfl (by omega) (by decide) ?_
          refine z_icmp rfl (by first | assumption | (unfold R3; omega)) (by first | assumption | (unfold R3; omega)) (fun c => ?_) (fun c => absurd (by simp only [zcd] <;> omega) c)
          refine z_iinc rfl rfl rfl ?_
          refine tt_goto rfl ?_
          have t := ih (f + 1) a (some (zI (k + 2 : Nat))) (by omega)
          simp only [wSq] at t ⊢
          rw [← wSo_next, ← wSo_next, ← wSo_next, ← wSo_next, show fs f - 2 = k by omega] at t
          exact t
        | succ j ihk =>
          intro k a hk
          have b0 := hbd.2.2.2 (14 * f) (by omega)
          have b1 := hbd.2.2.2 (14 * f + (k + 1)) (by omega)
          have b2 := hbd.2.2.2 (14 * f + (k + 2)) (by omega)
          refine tt_op rfl rfl ?_
          refine tt_op rfl rfl ?_
          refine tt_get rfl md64 (by rfl) ?_
          refine tt_op rfl rfl ?_
          refine z_iald rfl md69 rfl (by omega) (by decide) ?_
          refine z_icmp rfl (by first | assumption | (unfold R3; omega)) (by first | assumption | (unfold R3; omega)) (fun c => absurd c (by simp only [zcd] <;> omega)) (fun c => ?_)
          refine tt_op rfl rfl ?_
          refine tt_op rfl rfl ?_
          refine tt_get rfl md64 (by rfl) ?_
          refine tt_op rfl rfl ?_
          refine tt_op rfl rfl ?_
          refine z_imul rfl ?_
          refine z_iald (j := 14 * f) rfl md70 (by omega) (by omega) (by decide) ?_
          refine tt_op rfl rfl ?_
          refine tt_get rfl md64 (by rfl) ?_
          refine tt_op rfl rfl ?_
          refine tt_op rfl rfl ?_
          refine z_imul rfl ?_
          refine tt_op rfl rfl ?_
          refine z_iadd rfl ?_
          refine tt_op rfl rfl ?_
          refine z_isub rfl ?_
          refine z_iald (j := 14 * f + (k + 1)) rfl md70 (by omega) (by omega) (by decide) ?_
          refine tt_op rfl rfl ?_
          refine tt_get rfl md64 (by rfl) ?_
          refine tt_op rfl rfl ?_
          refine tt_op rfl rfl ?_
          refine z_imul rfl ?_
          refine tt_op rfl rfl ?_
          refine z_iadd rfl ?_
          refine z_iald (j := 14 * f + (k + 2)) rfl md70 (by omega) (by omega) (by decide) ?_
          refine tt_callV (M' := xmX6_tetrahedron) rfl rfl rfl md64 rfl (m_tetra hb b0 b1 b2) ?_
          rintro res n' h' ⟨rfl, rfl, rfl⟩
          refine z_iinc rfl rfl rfl ?_
          refine tt_goto rfl ?_
          have t := ihk (k + 1) (crs P (fr (14 * f)) (fr (14 * f + (k + 1))) (fr (14 * f + (k + 2)))) (by omega)
          have st : ∀ g, wSo P fr fs g f k + g (fr (14 * f)) (fr (14 * f + (k + 1))) (fr (14 * f + (k + 2))) = wSo P fr fs g f (k + 1) := fun g => by
            show _ + _ + _ = _ + (_ + g (fr (14 * f)) (fr (14 * f + (k + 1))) (fr (14 * f + (k + 2))))
            omega
          simp only [wSq] at t ⊢
          rw [st, st, st, st]
          exact t
      exact inn (fs f - 2) 0 a (by omega)
  have t := loop fa 0 a none (by omega)
  exact t
theorem m_part_loop (n : Nat) (h : xHp) (x y : Int) (pt : Nat) (G : Nat) (Q : xQt) (hfin : ∀ l9, xT xmX6_part (1, 0, 0, 0, 0) 53 [some (zJ x), none, some (zJ y), none, some (zI pt), some (zJ G), none, some (zJ 0), none, l9, none] [] n h Q) : ∀ (f u v : Nat) (l9 : Option Value), v < f → Nat.gcd u v = G → u < 9223372036854775808 → v < 9223372036854775808 → xT xmX6_part (1, 0, 0, 0, 0) 28 [some (zJ x), none, some (zJ y), none, some (zI pt), some (zJ u), none, some (zJ v), none, l9, none] [] n h Q := by
  intro f
  induction f with
  | zero => intro u v l9 hf; exact absurd hf (by omega)
  | succ f ih =>
    intro u v l9 hf hg hu hv
    refine tt_op rfl rfl ?_
    refine tt_op rfl rfl ?_
    refine z_lif rfl rfl ⟨by omega, by omega⟩ ⟨by decide, by decide⟩ (fun c1 => ?_) (fun c1 => ?_)
    · simp only [zcd] at c1
      have : v = 0 := by omega
      subst this
      rw [Nat.gcd_zero_right] at hg
      subst hg
      exact hfin l9
    · simp only [zcd] at c1
      have hlt := Nat.mod_lt u (show v > 0 by omega)
      refine tt_op rfl rfl ?_
      refine tt_op rfl rfl ?_
      refine z_lrem rfl (by omega) hu hv ?_
      refine tt_op rfl rfl ?_
      refine tt_op rfl rfl ?_
      refine tt_op rfl rfl ?_
      refine tt_op rfl rfl ?_
      refine tt_op rfl rfl ?_
      refine tt_goto rfl ?_
      refine ih v (u % v) _ (by omega) ?_ hv (by omega)
      rw [← hg, Nat.gcd_comm u v, Nat.gcd_rec v u, Nat.gcd_comm]
set_option maxRecDepth 10000 in
theorem m_part (x y : Int) (pt : Nat) (hx : -4611686018427387904 ≤ x ∧ x ≤ 4611686018427387904) (hy : 0 < y ∧ y ≤ 4611686018427387904) (hp : pt < 2) (n : Nat) (h : xHp) : xPure xmX6_part 1 [zJ x, zJ y, zI pt] n h (zJ ((if pt = 0 then x else y).tdiv (Int.gcd x y))) := by
  refine xCall.of xgX6_part rfl ?_
  have hg0 : 0 < Int.gcd x y := by
    rcases Nat.eq_zero_or_pos (Int.gcd x y) with h0 | h0
    · have := (Int.gcd_eq_zero_iff.mp h0).2; omega
    · exact h0
  have hgl : Int.gcd x y ≤ y.natAbs := Nat.le_of_dvd (by omega) (Nat.gcd_dvd_right ..)
  have end' : ∀ l9, xT xmX6_part (1, 0, 0, 0, 0) 53 [some (zJ x), none, some (zJ y), none, some (zI pt), some (zJ (Int.gcd x y : Nat)), none, some (zJ 0), none, l9, none] [] n h (fun r n' h' => r = some (zJ ((if pt = 0 then x else y).tdiv (Int.gcd x y))) ∧ n' = n ∧ h' = h) := by
    intro l9
    refine tt_op rfl rfl ?_
    refine tt_op rfl rfl ?_
    refine z_lif rfl rfl ⟨by omega, by omega⟩ ⟨by decide, by decide⟩ (fun c1 => ?_) (fun c1 => absurd (show zcd .ge y 0 by simp only [zcd]; omega) c1)
    refine tt_op rfl rfl ?_
    refine tt_op rfl rfl ?_
    refine tt_op rfl rfl ?_
    by_cases hp0 : pt = 0
    · subst hp0
      rw [if_pos rfl]
      refine z_if rfl (by first | assumption | (unfold R3; omega)) (fun c => absurd c (by simp only [zcd] <;> omega)) (fun c => ?_)
      refine tt_op rfl rfl ?_
      refine tt_op rfl rfl ?_
      refine z_lmul rfl ?_
      refine tt_op rfl rfl ?_
      rw [Int.one_mul]
      refine z_ldiv rfl (by omega) ⟨by omega, by omega⟩ (by omega) ⟨by omega, by omega⟩ ?_
      refine tt_goto rfl ?_
      refine tt_lreturn rfl rfl (Nat.le_of_ble_eq_true rfl) (Nat.le_of_ble_eq_true rfl) ?_
      exact ⟨rfl, rfl, rfl⟩
    · rw [if_neg hp0]
      refine z_if rfl (by first | assumption | (unfold R3; omega)) (fun c => ?_) (fun c => absurd (by simp only [zcd] <;> omega) c)
      refine tt_op rfl rfl ?_
      refine tt_op rfl rfl ?_
      refine z_lmul rfl ?_
      refine tt_op rfl rfl ?_
      rw [Int.one_mul]
      refine z_ldiv rfl (by omega) ⟨by omega, by omega⟩ (by omega) ⟨by omega, by omega⟩ ?_
      refine tt_lreturn rfl rfl (Nat.le_of_ble_eq_true rfl) (Nat.le_of_ble_eq_true rfl) ?_
      exact ⟨rfl, rfl, rfl⟩
  have two : xT xmX6_part (1, 0, 0, 0, 0) 12 [some (zJ x), none, some (zJ y), none, some (zI pt), none, none, none, none, none, none] [zJ (x.natAbs : Int)] n h (fun r n' h' => r = some (zJ ((if pt = 0 then x else y).tdiv (Int.gcd x y))) ∧ n' = n ∧ h' = h) := by
    refine tt_op rfl rfl ?_
    refine tt_op rfl rfl ?_
    refine tt_op rfl rfl ?_
    refine z_lif rfl rfl ⟨by omega, by omega⟩ ⟨by decide, by decide⟩ (fun c1 => ?_) (fun c1 => absurd (show zcd .ge y 0 by simp only [zcd]; omega) c1)
    refine tt_op rfl rfl ?_
    refine tt_op rfl rfl ?_
    have e : y = (y.natAbs : Int) := by omega
    have t := m_part_loop n h x y pt (Int.gcd x y) _ end' (y.natAbs + 1) x.natAbs y.natAbs none (by omega) rfl (by omega) (by omega)
    rw [← e] at t
    exact t
  refine tt_op rfl rfl ?_
  refine tt_op rfl rfl ?_
  refine z_lif rfl rfl ⟨by omega, by omega⟩ ⟨by decide, by decide⟩ (fun c1 => ?_) (fun c1 => ?_)
  · simp only [zcd] at c1
    refine tt_op rfl rfl ?_
    have e : x = (x.natAbs : Int) := by omega
    have t := two
    rw [← e] at t
    exact t
  · simp only [zcd] at c1
    refine tt_op rfl rfl ?_
    refine z_lneg rfl ?_
    refine tt_goto rfl ?_
    rw [show -x = (x.natAbs : Int) by omega]
    exact two
set_option maxRecDepth 10000 in
theorem m_volume (H : mHp hh m P cm cX cY cZ cD) : xCall xmX6_volume 100 0 0 [.ref 64] n hh (mPo hh m P cm cX cY cZ cD n (zJ (if 0 < (blF P m).1 then hSix P m else -1000000000000))) := by
  obtain ⟨fs, hq⟩ := H.at
  refine xCall.of xgX6_volume rfl ?_
  refine tt_op rfl rfl ?_
  refine tt_callV (M' := xmX6_noSolid) rfl rfl rfl hq rfl (m_noSolid H) ?_
  rintro res n' h' ⟨rfl, h64, ⟨hF, rfl, hM⟩ | ⟨hF, rfl, hM⟩⟩
  · rw [if_neg hF]
    refine z_if rfl (by first | assumption | (unfold R3; omega)) (fun c => absurd c (by simp only [zcd] <;> omega)) (fun c => ?_)
    refine tt_op rfl rfl ?_
    refine tt_lreturn rfl rfl (Nat.le_of_ble_eq_true rfl) (Nat.le_of_ble_eq_true rfl) ?_
    exact ⟨rfl, h64, hM, rfl⟩
  · rw [if_pos hF]
    obtain ⟨h, tb, fl, co, fa, fb, fs, fr, nn, lv, a, fat, w, su, sv, tu, im, rk, ba, go, rfl, hI, hS⟩ := hM
    refine z_if rfl (by first | assumption | (unfold R3; omega)) (fun c => ?_) (fun c => absurd (by simp only [zcd] <;> omega) c)
    refine tt_op rfl rfl ?_
    refine tt_callV (M' := xmX6_weigh) rfl rfl rfl md64 rfl (m_weigh hS) ?_
    rintro res n' h' ⟨rfl, rfl, a', rfl⟩
    refine tt_op rfl rfl ?_
    refine tt_get rfl md64 (by rfl) ?_
    refine tt_lreturn rfl rfl (Nat.le_of_ble_eq_true rfl) (Nat.le_of_ble_eq_true rfl) ?_
    exact ⟨rfl, fun j hj => by rw [← h64 j hj, md_lo hj, md_lo hj], ⟨h, 1, tb, fl, co, fa, fb, fs, fr, nn, lv, a', fat, _, su, sv, tu, im, rk, ba, go, rfl, hI⟩, rfl⟩
set_option maxRecDepth 10000 in
theorem m_middle (H : mHp hh m P cm cX cY cZ cD) (hsx : (-1000000000 ≤ hSix P m ∧ hSix P m ≤ 1000000000) ∧ ∀ j, j < 3 → -100000000000 ≤ hMo P m j ∧ hMo P m j ≤ 100000000000) (x y : Int) (hx : R3 x) (hy : R3 y) : xCall xmX6_middle 100 0 0 [.ref 64, zI x, zI y] n hh (mPo hh m P cm cX cY cZ cD n (zJ (if 0 < (blF P m).1 ∧ (0 ≤ x ∧ x ≤ 2) ∧ (y = 0 ∨ y = 1) then (if y = 0 then hMo P m x.toNat else 4 * hSix P m).tdiv (Int.gcd (hMo P m x.toNat) (4 * hSix P m)) else -1000000000000))) := by
  obtain ⟨fs, hq⟩ := H.at
  refine xCall.of xgX6_middle rfl ?_
  refine tt_op rfl rfl ?_
  refine tt_callV (M' := xmX6_noSolid) rfl rfl rfl hq rfl (m_noSolid H) ?_
  rintro res n' h' ⟨rfl, h64, ⟨hF, rfl, hM⟩ | ⟨hF, rfl, hM⟩⟩
  · rw [if_neg (fun e => hF e.1)]
    refine z_if rfl (by first | assumption | (unfold R3; omega)) (fun c => ?_) (fun c => absurd (by simp only [zcd] <;> omega) c)
    refine tt_op rfl rfl ?_
    refine tt_lreturn rfl rfl (Nat.le_of_ble_eq_true rfl) (Nat.le_of_ble_eq_true rfl) ?_
    exact ⟨rfl, h64, hM, rfl⟩
  have hM' := hM.hp
  obtain ⟨h, tb, fl, co, fa, fb, fs, fr, nn, lv, a, fat, w, su, sv, tu, im, rk, ba, go, rfl, hI, hS⟩ := hM
  obtain ⟨_, ⟨hm, hb, hD⟩, hs, hA, _, hbd, hmt, hrn⟩ := SF_u hS
  have hpos := hSix_pos hm (fun j hj => hb j (by omega)) hD hF
  refine z_if rfl (by first | assumption | (unfold R3; omega)) (fun c => absurd c (by simp only [zcd] <;> omega)) (fun c => ?_)
  refine tt_op rfl rfl ?_
  refine tt_op rfl rfl ?_
  refine tt_op rfl rfl ?_
  refine tt_pS rfl rfl rfl rfl (m_in x 0 2 hx ⟨by decide, by decide⟩ ⟨by decide, by decide⟩ _ _) ?_
  by_cases c1 : 0 ≤ x ∧ x ≤ 2
  rotate_left
  · rw [if_neg c1, if_neg (fun e => c1 e.2.1)]
    refine z_if rfl (by first | assumption | (unfold R3; omega)) (fun c => ?_) (fun c => absurd (by simp only [zcd] <;> omega) c)
    refine tt_op rfl rfl ?_
    refine tt_lreturn rfl rfl (Nat.le_of_ble_eq_true rfl) (Nat.le_of_ble_eq_true rfl) ?_
    exact ⟨rfl, h64, hM', rfl⟩
  rw [if_pos c1]
  refine z_if rfl (by first | assumption | (unfold R3; omega)) (fun c => absurd c (by simp only [zcd] <;> omega)) (fun c => ?_)
  refine tt_op rfl rfl ?_
  refine tt_op rfl rfl ?_
  refine tt_op rfl rfl ?_
  refine tt_pS rfl rfl rfl rfl (m_in y 0 1 hy ⟨by decide, by decide⟩ ⟨by decide, by decide⟩ _ _) ?_
  by_cases c2 : 0 ≤ y ∧ y ≤ 1
  rotate_left
  · rw [if_neg c2, if_neg (fun e => c2 (by omega))]
    refine z_if rfl (by first | assumption | (unfold R3; omega)) (fun c => absurd c (by simp only [zcd] <;> omega)) (fun c => ?_)
    refine tt_op rfl rfl ?_
    refine tt_lreturn rfl rfl (Nat.le_of_ble_eq_true rfl) (Nat.le_of_ble_eq_true rfl) ?_
    exact ⟨rfl, h64, hM', rfl⟩
  rw [if_pos c2, if_pos ⟨hF, c1, by omega⟩]
  refine z_if rfl (by first | assumption | (unfold R3; omega)) (fun c => ?_) (fun c => absurd (by simp only [zcd] <;> omega) c)
  refine tt_op rfl rfl ?_
  refine tt_callV (M' := xmX6_weigh) rfl rfl rfl md64 rfl (m_weigh hS) ?_
  rintro res n' h' ⟨rfl, rfl, a', rfl⟩
  have m0 := hsx.2 0 (by omega)
  have m1 := hsx.2 1 (by omega)
  have m2 := hsx.2 2 (by omega)
  obtain ⟨pt, rfl⟩ : ∃ pt : Nat, y = pt := ⟨y.toNat, by omega⟩
  have fin : ∀ M : Int, M = hMo P m x.toNat → (-100000000000 ≤ M ∧ M ≤ 100000000000) → xT xmX6_middle (100, 0, 0, 0, 0) 60 [some (.ref 64), some (zI x), some (zI pt)] [zJ M] n' (mdH h m P (1) tb fl co fa fb fs fr nn lv (a') fat ((hSix P m, hMo P m 0, hMo P m 1, hMo P m 2)) cm cX cY cZ cD su sv tu im rk ba go) (mPo hh m P cm cX cY cZ cD n' (zJ ((if (pt : Int) = 0 then hMo P m x.toNat else 4 * hSix P m).tdiv (Int.gcd (hMo P m x.toNat) (4 * hSix P m))))) := by
    intro M hM hMb
    refine tt_op rfl rfl ?_
    refine tt_op rfl rfl ?_
    refine tt_get rfl md64 (by rfl) ?_
    refine z_lmul rfl ?_
    refine tt_op rfl rfl ?_
    refine tt_pS rfl rfl rfl rfl (m_part M (4 * hSix P m) pt ⟨by omega, by omega⟩ ⟨by omega, by omega⟩ (by omega) _ _) ?_
    refine tt_lreturn rfl rfl (Nat.le_of_ble_eq_true rfl) (Nat.le_of_ble_eq_true rfl) ?_
    refine ⟨rfl, fun j hj => by rw [← h64 j hj, md_lo hj, md_lo hj], ⟨h, 1, tb, fl, co, fa, fb, fs, fr, nn, lv, a', fat, _, su, sv, tu, im, rk, ba, go, rfl, hI⟩, ?_⟩
    rw [hM]
    by_cases e : pt = 0
    · subst e; rfl
    · rw [if_neg e, if_neg (by omega)]
  refine tt_op rfl rfl ?_
  refine z_if rfl (by first | assumption | (unfold R3; omega)) (fun d0 => ?_) (fun d0 => ?_)
  · simp only [zcd] at d0
    refine tt_op rfl rfl ?_
    refine tt_op rfl rfl ?_
    refine z_icmp rfl (by first | assumption | (unfold R3; omega)) (by first | assumption | (unfold R3; omega)) (fun d1 => ?_) (fun d1 => ?_)
    · simp only [zcd] at d1
      refine tt_op rfl rfl ?_
      refine tt_get rfl md64 (by rfl) ?_
      exact fin _ (by rw [show x = 2 by omega]; rfl) m2
    · simp only [zcd] at d1
      refine tt_op rfl rfl ?_
      refine tt_get rfl md64 (by rfl) ?_
      refine tt_goto rfl ?_
      exact fin _ (by rw [show x = 1 by omega]; rfl) m1
  · simp only [zcd] at d0
    refine tt_op rfl rfl ?_
    refine tt_get rfl md64 (by rfl) ?_
    refine tt_goto rfl ?_
    exact fin _ (by rw [show x = 0 by omega]; rfl) m0
end M7
