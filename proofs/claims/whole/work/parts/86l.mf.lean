/-! The reference: turns kept, and asked for -/
theorem eaR_spec {im : Nat → Int} {i j : Nat} : ∀ (f p : Nat), eaR im i j f p = true ↔ ∃ q, p ≤ q ∧ q < p + f ∧ im (14 * i + q) < im (14 * j + q) ∧ ∀ r, p ≤ r → r < q → im (14 * i + r) = im (14 * j + r)
  | 0, p => by
    simp only [eaR]
    constructor
    · intro h; cases h
    · rintro ⟨q, a, b, _⟩; omega
  | f + 1, p => by
    simp only [eaR]
    split
    · rename_i h
      rw [decide_eq_true_eq]
      constructor
      · intro e; exact ⟨p, by omega, by omega, e, fun r a b => by omega⟩
      · rintro ⟨q, a, b, c, d⟩
        by_cases e : q = p
        · subst e; exact c
        · exact absurd (d p (by omega) (by omega)) h
    · rename_i h
      have h' : im (14 * i + p) = im (14 * j + p) := Classical.byContradiction h
      rw [eaR_spec f (p + 1)]
      constructor
      · rintro ⟨q, a, b, c, d⟩
        refine ⟨q, by omega, by omega, c, fun r x y => ?_⟩
        by_cases e : r = p
        · subst e; exact h'
        · exact d r (by omega) y
      · rintro ⟨q, a, b, c, d⟩
        refine ⟨q, ?_, by omega, c, fun r x y => d r (by omega) y⟩
        by_cases e : q = p
        · subst e; omega
        · omega
theorem eaB_self (m : Nat) (im : Nat → Int) (i : Nat) : eaB m im i i = false := by
  cases h : eaB m im i i
  · rfl
  · obtain ⟨q, _, _, c, _⟩ := (eaR_spec m 0).1 h; omega
theorem ea_lxl {P : Nat → V3} {m : Nat} {im : Nat → Int} {i j : Nat} (hi : trow P m im i) (hj : trow P m im j) : eaB m im i j = true ↔ lxl (isCor P m) (fun p => (im (14 * i + p)).toNat) (fun p => (im (14 * j + p)).toNat) := by
  unfold eaB
  rw [eaR_spec]
  constructor
  · rintro ⟨q, _, b, c, d⟩
    have cq : isCor P m q := by
      apply Classical.byContradiction; intro h
      have := hi.2.2 q (by omega) h; have := hj.2.2 q (by omega) h; omega
    have a1 := hi.2.1 q cq
    have a2 := hj.2.1 q cq
    refine ⟨q, cq, by show (im (14 * i + q)).toNat < (im (14 * j + q)).toNat; omega, fun r hr cr => ?_⟩
    show (im (14 * i + r)).toNat = (im (14 * j + r)).toNat
    rw [d r (by omega) hr]
  · rintro ⟨q, cq, c, d⟩
    have a1 := hi.2.1 q cq
    have a2 := hj.2.1 q cq
    have c' : (im (14 * i + q)).toNat < (im (14 * j + q)).toNat := c
    refine ⟨q, by omega, by have := cq.1; omega, by omega, fun r _ hr => ?_⟩
    by_cases cr : isCor P m r
    · have b1 := hi.2.1 r cr
      have b2 := hj.2.1 r cr
      have : (im (14 * i + r)).toNat = (im (14 * j + r)).toNat := d r hr cr
      omega
    · rw [hi.2.2 r (by have := cq.1; omega) cr, hj.2.2 r (by have := cq.1; omega) cr]
theorem tOk_row {P : Nat → V3} {m tu : Nat} {im : Nat → Int} {rk ba : Nat → Nat} (h : tOk P m tu im rk ba) {i : Nat} (hi : i < tu) : trow P m im i := ⟨h.2.2.1.1 i hi, fun p hp => h.2.2.2.2.1 i p hi hp, fun p hp hn => h.2.2.2.2.2.1 i p hi hp hn⟩
/-- the ranks bring the class's order -/
theorem tOk_rank {P : Nat → V3} {m tu : Nat} {im : Nat → Int} {rk ba : Nat → Nat} (h : tOk P m tu im rk ba) {N : Nat} {imc : Nat → Nat → Nat} (hL : SyL P m N imc) (hord : ∀ i j, i < j → j < N → lxl (isCor P m) (imc i) (imc j)) : tu = N ∧ ∀ i, i < N → rk i < tu ∧ ∀ p, isCor P m p → im (14 * rk i + p) = (imc i p : Int) := by
  obtain ⟨r, hr⟩ := h.2.2.2.2.2.2
  obtain ⟨e, k⟩ := sy_rank hL h.2.2.1 hord (eaB m im) (fun i j hi hj => ea_lxl (tOk_row h hi) (tOk_row h hj)) r
  refine ⟨e, fun i hi => ?_⟩
  obtain ⟨k1, k2⟩ := k i hi
  rw [hr i (by omega)]
  refine ⟨k1, fun p hp => ?_⟩
  have a := h.2.2.2.2.1 _ p k1 hp
  have b : (im (14 * rkR (eaB m im) tu r tu i + p)).toNat = imc i p := k2 p hp
  omega
section MF
variable {h : xHp} {m : Nat} {P : Nat → V3} {bu tb fl co fa : Nat} {fb fs fr : Nat → Nat} {nn : Nat → V3} {lv : Nat → Int} {a : V3} {fat : Nat → Nat} {w : Int × V3} {cm : Int} {cX cY cZ cD su sv : Nat → Int} {tu : Nat} {im : Nat → Int} {rk ba : Nat → Nat} {go : Nat → Int}
variable {n : Nat} {hh : xHp}
set_option maxRecDepth 10000 in
theorem m_isEarlier (hm : m ≤ 14) {i j : Nat} (hi : i < 64) (hj : j < 64) (bi : ∀ p, p < m → -1 ≤ im (14 * i + p) ∧ im (14 * i + p) < 14) (bj : ∀ p, p < m → -1 ≤ im (14 * j + p) ∧ im (14 * j + p) < 14) : xPure xmX6_isEarlier 1 [.ref 64, zI i, zI j] n (mdH h m P bu tb fl co fa fb fs fr nn lv a fat w cm cX cY cZ cD su sv tu im rk ba go) (zI (if eaB m im i j = true then 1 else 0)) := by
  refine xCall.of xgX6_isEarlier rfl ?_
  refine tt_op rfl rfl ?_
  refine tt_op rfl rfl ?_
  have loop : ∀ (f p : Nat), p + f = m → xT xmX6_isEarlier (1, 0, 0, 0, 0) 2 [some (.ref 64), some (zI i), some (zI j), some (zI p)] [] n (mdH h m P bu tb fl co fa fb fs fr nn lv a fat w cm cX cY cZ cD su sv tu im rk ba go) (fun r n' h' => r = some (zI (if eaR im i j f p = true then 1 else 0)) ∧ n' = n ∧ h' = (mdH h m P bu tb fl co fa fb fs fr nn lv a fat w cm cX cY cZ cD su sv tu im rk ba go)) := by
    intro f
    induction f with
    | zero =>
      intro p hp
      have : p = m := by omega
      subst this
      refine tt_op rfl rfl ?_
      refine tt_op rfl rfl ?_
      refine tt_get rfl md64 (by rfl) ?_
      refine z_icmp rfl (by first | assumption | (unfold R3; omega)) (by first | assumption | (unfold R3; omega)) (fun c => ?_) (fun c => absurd (by simp only [zcd] <;> omega) c)
      refine tt_op rfl rfl ?_
      refine tt_ireturn rfl rfl (by rfl) (Nat.le_of_ble_eq_true rfl) (Nat.le_of_ble_eq_true rfl) ?_
      exact ⟨rfl, rfl, rfl⟩
    | succ f ih =>
      intro p hp
      have b1 := bi p (by omega)
      have b2 := bj p (by omega)
      have e1 : im (14 * i + p) = im (14 * j + p) → eaR im i j (f + 1) p = eaR im i j f (p + 1) := fun hh => by show (if _ then _ else _) = _; rw [if_neg (fun e => e hh)]
      have e2 : im (14 * i + p) ≠ im (14 * j + p) → eaR im i j (f + 1) p = decide (im (14 * i + p) < im (14 * j + p)) := fun hh => by show (if _ then _ else _) = _; rw [if_pos hh]
      refine tt_op rfl rfl ?_
      refine tt_op rfl rfl ?_
      refine tt_get rfl md64 (by rfl) ?_
      refine z_icmp rfl (by first | assumption | (unfold R3; omega)) (by first | assumption | (unfold R3; omega)) (fun c => absurd c (by simp only [zcd] <;> omega)) (fun c => ?_)
      refine tt_op rfl rfl ?_
      refine tt_get rfl md64 (by rfl) ?_
      refine tt_op rfl rfl ?_
      refine tt_op rfl rfl ?_
      refine z_imul rfl ?_
      refine tt_op rfl rfl ?_
      refine z_iadd rfl ?_
      refine z_iald (j := 14 * i + p) rfl md82 (by omega) (by omega) (by decide) ?_
      refine tt_op rfl rfl ?_
      refine tt_get rfl md64 (by rfl) ?_
      refine tt_op rfl rfl ?_
      refine tt_op rfl rfl ?_
      refine z_imul rfl ?_
      refine tt_op rfl rfl ?_
      refine z_iadd rfl ?_
      refine z_iald (j := 14 * j + p) rfl md82 (by omega) (by omega) (by decide) ?_
      refine z_icmp rfl (by first | assumption | (unfold R3; omega)) (by first | assumption | (unfold R3; omega)) (fun c1 => ?_) (fun c1 => ?_)
      · simp only [zcd] at c1
        rw [e1 c1]
        refine z_iinc rfl rfl rfl ?_
        refine tt_goto rfl ?_
        exact ih (p + 1) (by omega)
      · simp only [zcd] at c1
        rw [e2 c1]
        refine tt_op rfl rfl ?_
        refine tt_get rfl md64 (by rfl) ?_
        refine tt_op rfl rfl ?_
        refine tt_op rfl rfl ?_
        refine z_imul rfl ?_
        refine tt_op rfl rfl ?_
        refine z_iadd rfl ?_
        refine z_iald (j := 14 * i + p) rfl md82 (by omega) (by omega) (by decide) ?_
        refine tt_op rfl rfl ?_
        refine tt_get rfl md64 (by rfl) ?_
        refine tt_op rfl rfl ?_
        refine tt_op rfl rfl ?_
        refine z_imul rfl ?_
        refine tt_op rfl rfl ?_
        refine z_iadd rfl ?_
        refine z_iald (j := 14 * j + p) rfl md82 (by omega) (by omega) (by decide) ?_
        refine z_icmp rfl (by first | assumption | (unfold R3; omega)) (by first | assumption | (unfold R3; omega)) (fun c2 => ?_) (fun c2 => ?_)
        · simp only [zcd] at c2
          rw [decide_eq_false (by omega)]
          refine tt_op rfl rfl ?_
          refine tt_ireturn rfl rfl (by rfl) (Nat.le_of_ble_eq_true rfl) (Nat.le_of_ble_eq_true rfl) ?_
          exact ⟨rfl, rfl, rfl⟩
        · simp only [zcd] at c2
          rw [decide_eq_true (by omega)]
          refine tt_op rfl rfl ?_
          refine tt_goto rfl ?_
          refine tt_ireturn rfl rfl (by rfl) (Nat.le_of_ble_eq_true rfl) (Nat.le_of_ble_eq_true rfl) ?_
          exact ⟨rfl, rfl, rfl⟩
  exact loop m 0 (by omega)
set_option maxRecDepth 10000 in
set_option maxHeartbeats 1000000 in
theorem m_buildTurns (hS : SF P m (fl, co, fa, fb, fs, fr, nn, lv, fat)) (htb : tb = 0 ∨ tb = 1) (hT : tb = 1 → tOk P m tu im rk ba) : xCall xmX6_buildTurns 6 0 0 [.ref 64] n (mdH h m P bu tb fl co fa fb fs fr nn lv a fat w cm cX cY cZ cD su sv tu im rk ba go) (fun res n' h' => res = none ∧ n' = n ∧ ∃ a' tu' im' rk' ba' go', tOk P m tu' im' rk' ba' ∧ h' = (mdH h m P bu (1) fl co fa fb fs fr nn lv (a') fat w cm cX cY cZ cD su sv (tu') (im') (rk') (ba') (go'))) := by
  obtain ⟨_, ⟨hm, hb, hD⟩, hs, hA, hco, hbd, hmt, hrn⟩ := SF_u hS
  have hb' : ∀ j, j < m → vbd 20 (P j) := fun j hj => hb j (by omega)
  refine xCall.of xgX6_buildTurns rfl ?_
  refine tt_op rfl rfl ?_
  refine tt_get rfl md64 (by rfl) ?_
  rcases htb with rfl | rfl
  rotate_left
  · refine z_if rfl (by first | assumption | (unfold R3; omega)) (fun c => absurd c (by simp only [zcd] <;> omega)) (fun c => ?_)
    refine tt_return rfl rfl (Nat.le_of_ble_eq_true rfl) (Nat.le_of_ble_eq_true rfl) ?_
    exact ⟨rfl, rfl, a, tu, im, rk, ba, go, hT rfl, rfl⟩
  refine z_if rfl (by first | assumption | (unfold R3; omega)) (fun c => ?_) (fun c => absurd (by simp only [zcd] <;> omega) c)
  refine tt_op rfl rfl ?_
  refine tt_op rfl rfl ?_
  refine md_ptb (x := 1) (Or.inr rfl) rfl (by decide) ?_
  refine tt_op rfl rfl ?_
  refine tt_op rfl rfl ?_
  refine md_ptu (x := 0) rfl (by decide) ?_
  refine tt_op rfl rfl ?_
  refine tt_callV (M' := xmX6_findBase) rfl rfl rfl md64 rfl (m_findBase hS) ?_
  rintro res n' h' ⟨rfl, rfl, a1, ba1, hg, rfl⟩
  refine tt_op rfl rfl ?_
  refine tt_callV (M' := xmX6_tryGoals) rfl rfl rfl md64 rfl (m_tryGoals hS hg) ?_
  rintro res n' h' ⟨rfl, rfl, tu1, im1, go1, hT1, rfl⟩
  have h48 := TI_cap hm hb' hD hs hT1
  obtain ⟨t1, t2, t3, t4⟩ := hT1
  have hbnd : ∀ i p, i < tu1 → p < m → -1 ≤ im1 (14 * i + p) ∧ im1 (14 * i + p) < 14 := by
    intro i p hi hp
    obtain ⟨_, r1, r2⟩ := t1 i hi
    by_cases cp : isCor P m p
    · have := r1 p cp; omega
    · rw [r2 p hp cp]; omega
  have good : ∀ rk', (∃ r, ∀ j, j < tu1 → rk' j = rkR (eaB m im1) tu1 r tu1 j) → tOk P m tu1 im1 rk' ba1 := by
    intro rk' hrk
    refine ⟨fun k hk => ?_, hg.2.2.2.2, ⟨fun i hi => (t1 i hi).1, fun i j hi hj e => t2 i j hi hj (fun p hp => ?_), fun s hs' => ?_⟩, h48, fun i p hi hp => (t1 i hi).2.1 p hp, fun i p hi hp hn => (t1 i hi).2.2 p hp hn, hrk⟩
    · have : k = 0 ∨ k = 1 ∨ k = 2 ∨ k = 3 := by omega
      rcases this with rfl | rfl | rfl | rfl
      · exact hg.1
      · exact hg.2.1
      · exact hg.2.2.1
      · exact hg.2.2.2.1
    · have a := (t1 i hi).2.1 p hp
      have b := (t1 j hj).2.1 p hp
      have c : (im1 (14 * i + p)).toNat = (im1 (14 * j + p)).toNat := e p hp
      omega
    · obtain ⟨i, i1, i2⟩ := t4 s hs' (Or.inr (fun i hi => by omega))
      exact ⟨i, i1, fun p hp => by show (im1 (14 * i + p)).toNat = s p; rw [i2 p hp, Int.toNat_natCast]⟩
  refine tt_op rfl rfl ?_
  refine tt_op rfl rfl ?_
  have loop : ∀ (j f : Nat) (l2 l3 : Option Value), f + j = tu1 → xT xmX6_buildTurns (6, 0, 0, 0, 0) 28 [some (.ref 64), some (zI f), l2, l3] [] n' (mdH h m P bu (1) fl co fa fb fs fr nn lv (a1) fat w cm cX cY cZ cD su sv (tu1) (im1) (rkR (eaB m im1) tu1 rk f) (ba1) (go1)) (fun res n'' h' => res = none ∧ n'' = n' ∧ ∃ a' tu' im' rk' ba' go', tOk P m tu' im' rk' ba' ∧ h' = (mdH h m P bu (1) fl co fa fb fs fr nn lv (a') fat w cm cX cY cZ cD su sv (tu') (im') (rk') (ba') (go'))) := by
    intro j
    induction j with
    | zero =>
      intro f l2 l3 hf
      have : f = tu1 := by omega
      subst this
      refine tt_op rfl rfl ?_
      refine tt_op rfl rfl ?_
      refine tt_get rfl md64 (by rfl) ?_
      refine z_icmp rfl (by first | assumption | (unfold R3; omega)) (by first | assumption | (unfold R3; omega)) (fun c => ?_) (fun c => absurd (by simp only [zcd] <;> omega) c)
      refine tt_return rfl rfl (Nat.le_of_ble_eq_true rfl) (Nat.le_of_ble_eq_true rfl) ?_
      exact ⟨rfl, rfl, a1, f, im1, _, ba1, go1, good _ ⟨rk, fun j _ => rfl⟩, rfl⟩
    | succ j ih =>
      intro f l2 l3 hf
      have hlt := cnt_lt (p := fun g => eaB m im1 g f) (eaB_self m im1 f) tu1 (by omega)
      refine tt_op rfl rfl ?_
      refine tt_op rfl rfl ?_
      refine tt_get rfl md64 (by rfl) ?_
      refine z_icmp rfl (by first | assumption | (unfold R3; omega)) (by first | assumption | (unfold R3; omega)) (fun c => absurd c (by simp only [zcd] <;> omega)) (fun c => ?_)
      refine tt_op rfl rfl ?_
      refine tt_op rfl rfl ?_
      refine tt_op rfl rfl ?_
      refine tt_op rfl rfl ?_
      have inn : ∀ (j g : Nat), g + j = tu1 → xT xmX6_buildTurns (6, 0, 0, 0, 0) 40 [some (.ref 64), some (zI f), some (zI (cnt (fun g => eaB m im1 g f) g : Nat)), some (zI g)] [] n' (mdH h m P bu (1) fl co fa fb fs fr nn lv (a1) fat w cm cX cY cZ cD su sv (tu1) (im1) (rkR (eaB m im1) tu1 rk f) (ba1) (go1)) (fun res n'' h' => res = none ∧ n'' = n' ∧ ∃ a' tu' im' rk' ba' go', tOk P m tu' im' rk' ba' ∧ h' = (mdH h m P bu (1) fl co fa fb fs fr nn lv (a') fat w cm cX cY cZ cD su sv (tu') (im') (rk') (ba') (go'))) := by
        intro j
        induction j with
        | zero =>
          intro g hg'
          have : g = tu1 := by omega
          subst this
          refine tt_op rfl rfl ?_
          refine tt_op rfl rfl ?_
          refine tt_get rfl md64 (by rfl) ?_
          refine z_icmp rfl (by first | assumption | (unfold R3; omega)) (by first | assumption | (unfold R3; omega)) (fun c => ?_) (fun c => absurd (by simp only [zcd] <;> omega) c)
          refine tt_op rfl rfl ?_
          refine tt_get rfl md64 (by rfl) ?_
          refine tt_op rfl rfl ?_
          refine tt_op rfl rfl ?_
          refine md_s83 rfl rfl (by omega) ?_
          refine z_iinc rfl rfl rfl ?_
          refine tt_goto rfl ?_
          exact ih (f + 1) _ _ (by omega)
        | succ j ihg =>
          intro g hg'
          refine tt_op rfl rfl ?_
          refine tt_op rfl rfl ?_
          refine tt_get rfl md64 (by rfl) ?_
          refine z_icmp rfl (by first | assumption | (unfold R3; omega)) (by first | assumption | (unfold R3; omega)) (fun c => absurd c (by simp only [zcd] <;> omega)) (fun c => ?_)
          refine tt_op rfl rfl ?_
          refine tt_op rfl rfl ?_
          refine tt_op rfl rfl ?_
          refine tt_op rfl rfl ?_
          refine tt_pV rfl rfl rfl md64 rfl (m_isEarlier hm (i := g) (j := f) (by omega) (by omega) (fun p hp => hbnd g p (by omega) hp) (fun p hp => hbnd f p (by omega) hp)) ?_
          have nxt : ∀ x : Nat, x = (if eaB m im1 g f = true then 1 else 0) → xT xmX6_buildTurns (6, 0, 0, 0, 0) 63 [some (.ref 64), some (zI f), some (zI (cnt (fun g => eaB m im1 g f) g : Nat)), some (zI g)] [zI x, zI (cnt (fun g => eaB m im1 g f) g : Nat)] n' (mdH h m P bu (1) fl co fa fb fs fr nn lv (a1) fat w cm cX cY cZ cD su sv (tu1) (im1) (rkR (eaB m im1) tu1 rk f) (ba1) (go1)) (fun res n'' h' => res = none ∧ n'' = n' ∧ ∃ a' tu' im' rk' ba' go', tOk P m tu' im' rk' ba' ∧ h' = (mdH h m P bu (1) fl co fa fb fs fr nn lv (a') fat w cm cX cY cZ cD su sv (tu') (im') (rk') (ba') (go'))) := by
            intro x hx
            refine z_iadd rfl ?_
            refine tt_op rfl rfl ?_
            refine z_iinc rfl rfl rfl ?_
            refine tt_goto rfl ?_
            have e : ((cnt (fun g => eaB m im1 g f) g : Nat) : Int) + (x : Int) = ((cnt (fun g => eaB m im1 g f) (g + 1) : Nat) : Int) := by
              rw [hx]
              show _ = (((cnt (fun g => eaB m im1 g f) g + (if eaB m im1 g f = true then 1 else 0) : Nat)) : Int)
              omega
            rw [e]
            exact ihg (g + 1) (by omega)
          refine z_if rfl (z_b01 _) (fun c1 => ?_) (fun c1 => ?_)
          · have hy : eaB m im1 g f = false := by cases hy : eaB m im1 g f <;> simp_all [zcd]
            refine tt_op rfl rfl ?_
            exact nxt 0 (by rw [hy]; rfl)
          · have hy : eaB m im1 g f = true := by cases hy : eaB m im1 g f <;> simp_all [zcd]
            refine tt_op rfl rfl ?_
            refine tt_goto rfl ?_
            exact nxt 1 (by rw [hy]; rfl)
      exact inn tu1 0 (by omega)
  exact loop tu1 0 none none (by omega)
set_option maxRecDepth 10000 in
theorem m_noTurn (hS : SF P m (fl, co, fa, fb, fs, fr, nn, lv, fat)) (htb : tb = 0 ∨ tb = 1) (hT : tb = 1 → tOk P m tu im rk ba) (x : Int) (hx : R3 x) : xCall xmX6_noTurn 7 0 0 [.ref 64, zI x] n (mdH h m P bu tb fl co fa fb fs fr nn lv a fat w cm cX cY cZ cD su sv tu im rk ba go) (fun res n' h' => n' = n ∧ ∃ a' tu' im' rk' ba' go', tOk P m tu' im' rk' ba' ∧ h' = (mdH h m P bu (1) fl co fa fb fs fr nn lv (a') fat w cm cX cY cZ cD su sv (tu') (im') (rk') (ba') (go')) ∧ (((0 ≤ x ∧ x < tu') ∧ res = some (zI 0)) ∨ (¬ (0 ≤ x ∧ x < tu') ∧ res = some (zI 1)))) := by
  refine xCall.of xgX6_noTurn rfl ?_
  refine tt_op rfl rfl ?_
  refine tt_callV (M' := xmX6_buildTurns) rfl rfl rfl md64 rfl (m_buildTurns hS htb hT) ?_
  rintro res n' h' ⟨rfl, rfl, a', tu', im', rk', ba', go', hT', rfl⟩
  have h48 := hT'.2.2.2.1
  refine tt_op rfl rfl ?_
  refine tt_op rfl rfl ?_
  refine tt_op rfl rfl ?_
  refine tt_get rfl md64 (by rfl) ?_
  refine tt_op rfl rfl ?_
  refine z_isub rfl ?_
  refine tt_pS rfl rfl rfl rfl (m_in x 0 ((tu' : Int) - 1) hx ⟨by omega, by omega⟩ ⟨by omega, by omega⟩ _ _) ?_
  by_cases c1 : 0 ≤ x ∧ x ≤ (tu' : Int) - 1
  · rw [if_pos c1]
    refine z_if rfl (by first | assumption | (unfold R3; omega)) (fun c => ?_) (fun c => absurd (by simp only [zcd] <;> omega) c)
    refine tt_op rfl rfl ?_
    refine tt_ireturn rfl rfl (by rfl) (Nat.le_of_ble_eq_true rfl) (Nat.le_of_ble_eq_true rfl) ?_
    exact ⟨rfl, a', tu', im', rk', ba', go', hT', rfl, Or.inl ⟨by omega, rfl⟩⟩
  · rw [if_neg c1]
    refine z_if rfl (by first | assumption | (unfold R3; omega)) (fun c => absurd c (by simp only [zcd] <;> omega)) (fun c => ?_)
    refine tt_op rfl rfl ?_
    refine tt_goto rfl ?_
    refine tt_ireturn rfl rfl (by rfl) (Nat.le_of_ble_eq_true rfl) (Nat.le_of_ble_eq_true rfl) ?_
    exact ⟨rfl, a', tu', im', rk', ba', go', hT', rfl, Or.inr ⟨by omega, rfl⟩⟩
/-- the turns are kept: the cells stay good -/
theorem mIn_T {P : Nat → V3} {m tb : Nat} {t : B9} {tu : Nat} {im : Nat → Int} {rk ba : Nat → Nat} (h : mIn P m 1 tb t tu im rk ba) {tu' : Nat} {im' : Nat → Int} {rk' ba' : Nat → Nat} (hT : tOk P m tu' im' rk' ba') : mIn P m 1 1 t tu' im' rk' ba' := ⟨h.1, h.2.1, Or.inr rfl, Or.inr rfl, h.2.2.2.2.1, fun _ _ => hT⟩
set_option maxRecDepth 10000 in
theorem m_symmetries (H : mHp hh m P cm cX cY cZ cD) {N : Nat} {imc : Nat → Nat → Nat} (hL : 0 < (blF P m).1 → SyL P m N imc ∧ ∀ i j, i < j → j < N → lxl (isCor P m) (imc i) (imc j)) : xCall xmX6_symmetries 100 0 0 [.ref 64] n hh (mPo hh m P cm cX cY cZ cD n (zI (if 0 < (blF P m).1 then (N : Int) else -3))) := by
  obtain ⟨fs, hq⟩ := H.at
  refine xCall.of xgX6_symmetries rfl ?_
  refine tt_op rfl rfl ?_
  refine tt_callV (M' := xmX6_noSolid) rfl rfl rfl hq rfl (m_noSolid H) ?_
  rintro res n' h' ⟨rfl, h64, ⟨hF, rfl, hM⟩ | ⟨hF, rfl, hM⟩⟩
  · rw [if_neg hF]
    refine z_if rfl (by first | assumption | (unfold R3; omega)) (fun c => absurd c (by simp only [zcd] <;> omega)) (fun c => ?_)
    refine tt_op rfl rfl ?_
    refine tt_ireturn rfl rfl (by rfl) (Nat.le_of_ble_eq_true rfl) (Nat.le_of_ble_eq_true rfl) ?_
    exact ⟨rfl, h64, hM, rfl⟩
  rw [if_pos hF]
  obtain ⟨h, tb, fl, co, fa, fb, fs, fr, nn, lv, a, fat, w, su, sv, tu, im, rk, ba, go, rfl, hI, hS⟩ := hM
  obtain ⟨hL1, hL2⟩ := hL hF
  refine z_if rfl (by first | assumption | (unfold R3; omega)) (fun c => ?_) (fun c => absurd (by simp only [zcd] <;> omega) c)
  refine tt_op rfl rfl ?_
  refine tt_callV (M' := xmX6_buildTurns) rfl rfl rfl md64 rfl (m_buildTurns hS hI.2.2.2.1 (hI.2.2.2.2.2 rfl)) ?_
  rintro res n' h' ⟨rfl, rfl, a', tu', im', rk', ba', go', hT', rfl⟩
  obtain ⟨e, _⟩ := tOk_rank hT' hL1 hL2
  refine tt_op rfl rfl ?_
  refine tt_get rfl md64 (by rfl) ?_
  refine tt_ireturn rfl rfl (by rfl) (Nat.le_of_ble_eq_true rfl) (Nat.le_of_ble_eq_true rfl) ?_
  refine ⟨rfl, fun j hj => by rw [← h64 j hj, md_lo hj, md_lo hj], ⟨h, 1, 1, fl, co, fa, fb, fs, fr, nn, lv, a', fat, w, su, sv, tu', im', rk', ba', go', rfl, mIn_T hI hT'⟩, ?_⟩
  rw [e]
set_option maxRecDepth 10000 in
theorem m_symmetry (H : mHp hh m P cm cX cY cZ cD) {N : Nat} {imc : Nat → Nat → Nat} (hL : 0 < (blF P m).1 → SyL P m N imc ∧ ∀ i j, i < j → j < N → lxl (isCor P m) (imc i) (imc j)) (x y : Int) (hx : R3 x) (hy : R3 y) (v : Value) (hv3 : ¬ 0 < (blF P m).1 → v = zI (-3)) (hv1 : 0 < (blF P m).1 → ¬ ((0 ≤ x ∧ x < N) ∧ isCo (hCB P m) y) → v = zI (-1)) (hv : 0 < (blF P m).1 → (0 ≤ x ∧ x < N) ∧ isCo (hCB P m) y → v = zI (imc x.toNat y.toNat)) : xCall xmX6_symmetry 100 0 0 [.ref 64, zI x, zI y] n hh (mPo hh m P cm cX cY cZ cD n v) := by
  obtain ⟨fs, hq⟩ := H.at
  refine xCall.of xgX6_symmetry rfl ?_
  refine tt_op rfl rfl ?_
  refine tt_callV (M' := xmX6_noSolid) rfl rfl rfl hq rfl (m_noSolid H) ?_
  rintro res n' h' ⟨rfl, h64, ⟨hF, rfl, hM⟩ | ⟨hF, rfl, hM⟩⟩
  · refine z_if rfl (by first | assumption | (unfold R3; omega)) (fun c => absurd c (by simp only [zcd] <;> omega)) (fun c => ?_)
    refine tt_op rfl rfl ?_
    refine tt_ireturn rfl rfl (by rfl) (Nat.le_of_ble_eq_true rfl) (Nat.le_of_ble_eq_true rfl) ?_
    rw [hv3 hF]
    exact ⟨rfl, h64, hM, rfl⟩
  obtain ⟨h, tb, fl, co, fa, fb, fs, fr, nn, lv, a, fat, w, su, sv, tu, im, rk, ba, go, rfl, hI, hS⟩ := hM
  obtain ⟨_, ⟨hm, hb, hD⟩, hs, hA, hco, hbd, hmt, hrn⟩ := SF_u hS
  have hC := hCB_spec hm (fun j hj => hb j (by omega)) hD hs
  have ci : ∀ k : Int, ((0 ≤ k ∧ k < m) ∧ co.testBit k.toNat = true) ↔ isCo (hCB P m) k := by
    intro k
    unfold isCo
    rw [hC, hco.2]
    constructor
    · rintro ⟨e1, e2⟩; exact ⟨⟨e1.1, by omega⟩, e2⟩
    · rintro ⟨e1, e2⟩; exact ⟨⟨e1.1, by have := e2.1; omega⟩, e2⟩
  obtain ⟨hL1, hL2⟩ := hL hF
  refine z_if rfl (by first | assumption | (unfold R3; omega)) (fun c => ?_) (fun c => absurd (by simp only [zcd] <;> omega) c)
  refine tt_op rfl rfl ?_
  refine tt_op rfl rfl ?_
  refine tt_callV (M' := xmX6_noTurn) rfl rfl rfl md64 rfl (m_noTurn hS hI.2.2.2.1 (hI.2.2.2.2.2 rfl) x hx) ?_
  rintro res n' h' ⟨rfl, a', tu', im', rk', ba', go', hT', rfl, hres⟩
  obtain ⟨e, hrk⟩ := tOk_rank hT' hL1 hL2
  have hgood : mHp (mdH h m P (1) (1) fl co fa fb fs fr nn lv (a') fat w cm cX cY cZ cD su sv (tu') (im') (rk') (ba') (go')) m P cm cX cY cZ cD := ⟨h, 1, 1, fl, co, fa, fb, fs, fr, nn, lv, a', fat, w, su, sv, tu', im', rk', ba', go', rfl, mIn_T hI hT'⟩
  have h64' : ∀ j, j < 64 → (mdH h m P (1) (1) fl co fa fb fs fr nn lv (a') fat w cm cX cY cZ cD su sv (tu') (im') (rk') (ba') (go')) j = hh j := fun j hj => by rw [← h64 j hj, md_lo hj, md_lo hj]
  have no : ¬ ((0 ≤ x ∧ x < N) ∧ isCo (hCB P m) y) → xT xmX6_symmetry (100, 0, 0, 0, 0) 26 [some (.ref 64), some (zI x), some (zI y)] [] n' (mdH h m P (1) (1) fl co fa fb fs fr nn lv (a') fat w cm cX cY cZ cD su sv (tu') (im') (rk') (ba') (go')) (mPo hh m P cm cX cY cZ cD n' v) := by
    intro hn
    refine tt_op rfl rfl ?_
    refine tt_goto rfl ?_
    refine tt_ireturn rfl rfl (by rfl) (Nat.le_of_ble_eq_true rfl) (Nat.le_of_ble_eq_true rfl) ?_
    rw [hv1 hF hn]
    exact ⟨rfl, h64', hgood, rfl⟩
  rcases hres with ⟨hin, rfl⟩ | ⟨hout, rfl⟩
  rotate_left
  · refine z_if rfl (by first | assumption | (unfold R3; omega)) (fun c => ?_) (fun c => absurd (by simp only [zcd] <;> omega) c)
    exact no (fun e2 => hout ⟨e2.1.1, by have := e2.1.2; omega⟩)
  refine z_if rfl (by first | assumption | (unfold R3; omega)) (fun c => absurd c (by simp only [zcd] <;> omega)) (fun c => ?_)
  refine tt_op rfl rfl ?_
  refine tt_op rfl rfl ?_
  by_cases cy : isCo (hCB P m) y
  rotate_left
  · refine tt_pV rfl rfl rfl md64 rfl (m_isCorner hm hco.1 y hy (zI 0) (fun e => absurd ((ci y).1 e) cy) (fun _ => rfl)) ?_
    refine z_if rfl (by first | assumption | (unfold R3; omega)) (fun c => absurd c (by simp only [zcd] <;> omega)) (fun c => ?_)
    exact no (fun e2 => cy e2.2)
  refine tt_pV rfl rfl rfl md64 rfl (m_isCorner hm hco.1 y hy (zI 1) (fun _ => rfl) (fun e => absurd ((ci y).2 cy) e)) ?_
  refine z_if rfl (by first | assumption | (unfold R3; omega)) (fun c => ?_) (fun c => absurd (by simp only [zcd] <;> omega) c)
  have hv' := hv hF ⟨⟨hin.1, by omega⟩, cy⟩
  obtain ⟨i, rfl⟩ : ∃ i : Nat, x = i := ⟨x.toNat, by omega⟩
  obtain ⟨c, rfl⟩ : ∃ c : Nat, y = c := ⟨y.toNat, by have := cy.1; omega⟩
  have cc := (hC c).1 (by have := cy.2; rwa [Int.toNat_natCast] at this)
  have c14 := cc.1
  obtain ⟨k1, k2⟩ := hrk i (by omega)
  have h48 := hT'.2.2.2.1
  refine tt_op rfl rfl ?_
  refine tt_get rfl md64 (by rfl) ?_
  refine tt_op rfl rfl ?_
  refine tt_op rfl rfl ?_
  refine tt_get rfl md64 (by rfl) ?_
  refine tt_op rfl rfl ?_
  refine z_iald rfl md83 rfl (by omega) (by decide) ?_
  refine z_imul rfl ?_
  refine tt_op rfl rfl ?_
  refine z_iadd rfl ?_
  refine z_iald (j := 14 * rk' i + c) rfl md82 (by omega) (by omega) (by decide) ?_
  refine tt_ireturn rfl rfl (by rfl) (Nat.le_of_ble_eq_true rfl) (Nat.le_of_ble_eq_true rfl) ?_
  rw [hv', k2 c cc, Int.toNat_natCast, Int.toNat_natCast]
  exact ⟨rfl, h64', hgood, rfl⟩
set_option maxRecDepth 10000 in
set_option maxHeartbeats 1000000 in
theorem m_turn (H : mHp hh m P cm cX cY cZ cD) {N : Nat} {imc : Nat → Nat → Nat} (hL : 0 < (blF P m).1 → SyL P m N imc ∧ ∀ i j, i < j → j < N → lxl (isCor P m) (imc i) (imc j)) (x : Int) (hx : R3 x) (p q r t : Nat) (h4 : 0 < (blF P m).1 → g4 P m p q r t) (v : Value) (hv3 : ¬ 0 < (blF P m).1 → v = zI (-3)) (hv1 : 0 < (blF P m).1 → ¬ (0 ≤ x ∧ x < N) → v = zI (-1)) (hv : 0 < (blF P m).1 → (0 ≤ x ∧ x < N) → v = zI (if bxs P p q r t = bxs P (imc x.toNat p) (imc x.toNat q) (imc x.toNat r) (imc x.toNat t) then 1 else 0)) : xCall xmX6_turn 100 0 0 [.ref 64, zI x] n hh (mPo hh m P cm cX cY cZ cD n v) := by
  obtain ⟨fs, hq⟩ := H.at
  refine xCall.of xgX6_turn rfl ?_
  refine tt_op rfl rfl ?_
  refine tt_callV (M' := xmX6_noSolid) rfl rfl rfl hq rfl (m_noSolid H) ?_
  rintro res n' h' ⟨rfl, h64, ⟨hF, rfl, hM⟩ | ⟨hF, rfl, hM⟩⟩
  · refine z_if rfl (by first | assumption | (unfold R3; omega)) (fun c => absurd c (by simp only [zcd] <;> omega)) (fun c => ?_)
    refine tt_op rfl rfl ?_
    refine tt_ireturn rfl rfl (by rfl) (Nat.le_of_ble_eq_true rfl) (Nat.le_of_ble_eq_true rfl) ?_
    rw [hv3 hF]
    exact ⟨rfl, h64, hM, rfl⟩
  obtain ⟨h, tb, fl, co, fa, fb, fs, fr, nn, lv, a, fat, w, su, sv, tu, im, rk, ba, go, rfl, hI, hS⟩ := hM
  obtain ⟨_, ⟨hm, hb, hD⟩, hs, hA, hco, hbd, hmt, hrn⟩ := SF_u hS
  obtain ⟨hL1, hL2⟩ := hL hF
  refine z_if rfl (by first | assumption | (unfold R3; omega)) (fun c => ?_) (fun c => absurd (by simp only [zcd] <;> omega) c)
  refine tt_op rfl rfl ?_
  refine tt_op rfl rfl ?_
  refine tt_callV (M' := xmX6_noTurn) rfl rfl rfl md64 rfl (m_noTurn hS hI.2.2.2.1 (hI.2.2.2.2.2 rfl) x hx) ?_
  rintro res n' h' ⟨rfl, a', tu', im', rk', ba', go', hT', rfl, hres⟩
  obtain ⟨e, hrk⟩ := tOk_rank hT' hL1 hL2
  have hgood : ∀ a', mHp (mdH h m P (1) (1) fl co fa fb fs fr nn lv (a') fat w cm cX cY cZ cD su sv (tu') (im') (rk') (ba') (go')) m P cm cX cY cZ cD := fun a' => ⟨h, 1, 1, fl, co, fa, fb, fs, fr, nn, lv, a', fat, w, su, sv, tu', im', rk', ba', go', rfl, mIn_T hI hT'⟩
  have h64' : ∀ a', ∀ j, j < 64 → (mdH h m P (1) (1) fl co fa fb fs fr nn lv (a') fat w cm cX cY cZ cD su sv (tu') (im') (rk') (ba') (go')) j = hh j := fun a' j hj => by rw [← h64 j hj, md_lo hj, md_lo hj]
  rcases hres with ⟨hin, rfl⟩ | ⟨hout, rfl⟩
  rotate_left
  · refine z_if rfl (by first | assumption | (unfold R3; omega)) (fun c => absurd c (by simp only [zcd] <;> omega)) (fun c => ?_)
    refine tt_op rfl rfl ?_
    refine tt_ireturn rfl rfl (by rfl) (Nat.le_of_ble_eq_true rfl) (Nat.le_of_ble_eq_true rfl) ?_
    rw [hv1 hF (fun e2 => hout ⟨e2.1, by have := e2.2; omega⟩)]
    exact ⟨rfl, h64' a', hgood a', rfl⟩
  have hv' := hv hF ⟨hin.1, by omega⟩
  obtain ⟨i, rfl⟩ : ∃ i : Nat, x = i := ⟨x.toNat, by omega⟩
  rw [Int.toNat_natCast] at hv'
  obtain ⟨k1, k2⟩ := hrk i (by omega)
  have h48 := hT'.2.2.2.1
  have bc := hT'.1
  have hbx := hT'.2.1
  have b14 : ∀ k, k < 4 → ba' k < 14 := fun k hk => by have := (bc k hk).1; omega
  have hsy := hL1.1 i (by omega)
  have i14 : ∀ k, k < 4 → imc i (ba' k) < 14 := fun k hk => by have := (hsy.1 _ (bc k hk)).1; omega
  have q0 := k2 _ (bc 0 (by omega))
  have q1 := k2 _ (bc 1 (by omega))
  have q2 := k2 _ (bc 2 (by omega))
  have q3 := k2 _ (bc 3 (by omega))
  have b0 := b14 0 (by omega)
  have b1 := b14 1 (by omega)
  have b2 := b14 2 (by omega)
  have b3 := b14 3 (by omega)
  refine z_if rfl (by first | assumption | (unfold R3; omega)) (fun c => ?_) (fun c => absurd (by simp only [zcd] <;> omega) c)
  refine tt_op rfl rfl ?_
  refine tt_op rfl rfl ?_
  refine tt_get rfl md64 (by rfl) ?_
  refine tt_op rfl rfl ?_
  refine z_iald rfl md83 rfl (by omega) (by decide) ?_
  refine z_imul rfl ?_
  refine tt_op rfl rfl ?_
  refine tt_op rfl rfl ?_
  refine tt_op rfl rfl ?_
  refine tt_get rfl md64 (by rfl) ?_
  refine tt_op rfl rfl ?_
  refine z_iald (j := 0) rfl md84 rfl (by decide) (by decide) ?_
  refine tt_op rfl rfl ?_
  refine tt_get rfl md64 (by rfl) ?_
  refine tt_op rfl rfl ?_
  refine z_iald (j := 1) rfl md84 rfl (by decide) (by decide) ?_
  refine tt_op rfl rfl ?_
  refine tt_get rfl md64 (by rfl) ?_
  refine tt_op rfl rfl ?_
  refine z_iald (j := 2) rfl md84 rfl (by decide) (by decide) ?_
  refine tt_op rfl rfl ?_
  refine tt_get rfl md64 (by rfl) ?_
  refine tt_op rfl rfl ?_
  refine z_iald (j := 3) rfl md84 rfl (by decide) (by decide) ?_
  refine tt_callV (M' := xmX6_sense) rfl rfl rfl md64 rfl (m_sense b0 b1 b2 b3) ?_
  rintro res n' h' ⟨rfl, rfl, rfl⟩
  refine tt_op rfl rfl ?_
  refine tt_op rfl rfl ?_
  refine tt_op rfl rfl ?_
  refine tt_get rfl md64 (by rfl) ?_
  refine tt_op rfl rfl ?_
  refine tt_op rfl rfl ?_
  refine tt_get rfl md64 (by rfl) ?_
  refine tt_op rfl rfl ?_
  refine z_iald (j := 0) rfl md84 rfl (by decide) (by decide) ?_
  refine z_iadd rfl ?_
  refine z_iald (j := 14 * rk' i + ba' 0) rfl md82 (by omega) (by omega) (by decide) ?_
  rw [q0]
  refine tt_op rfl rfl ?_
  refine tt_get rfl md64 (by rfl) ?_
  refine tt_op rfl rfl ?_
  refine tt_op rfl rfl ?_
  refine tt_get rfl md64 (by rfl) ?_
  refine tt_op rfl rfl ?_
  refine z_iald (j := 1) rfl md84 rfl (by decide) (by decide) ?_
  refine z_iadd rfl ?_
  refine z_iald (j := 14 * rk' i + ba' 1) rfl md82 (by omega) (by omega) (by decide) ?_
  rw [q1]
  refine tt_op rfl rfl ?_
  refine tt_get rfl md64 (by rfl) ?_
  refine tt_op rfl rfl ?_
  refine tt_op rfl rfl ?_
  refine tt_get rfl md64 (by rfl) ?_
  refine tt_op rfl rfl ?_
  refine z_iald (j := 2) rfl md84 rfl (by decide) (by decide) ?_
  refine z_iadd rfl ?_
  refine z_iald (j := 14 * rk' i + ba' 2) rfl md82 (by omega) (by omega) (by decide) ?_
  rw [q2]
  refine tt_op rfl rfl ?_
  refine tt_get rfl md64 (by rfl) ?_
  refine tt_op rfl rfl ?_
  refine tt_op rfl rfl ?_
  refine tt_get rfl md64 (by rfl) ?_
  refine tt_op rfl rfl ?_
  refine z_iald (j := 3) rfl md84 rfl (by decide) (by decide) ?_
  refine z_iadd rfl ?_
  refine z_iald (j := 14 * rk' i + ba' 3) rfl md82 (by omega) (by omega) (by decide) ?_
  rw [q3]
  refine tt_callV (M' := xmX6_sense) rfl rfl rfl md64 rfl (m_sense (i14 0 (by omega)) (i14 1 (by omega)) (i14 2 (by omega)) (i14 3 (by omega))) ?_
  rintro res n' h' ⟨rfl, rfl, rfl⟩
  have B1 := bxs_bd3 hb b0 b1 b2 b3
  have B2 := bxs_bd3 hb (i14 0 (by omega)) (i14 1 (by omega)) (i14 2 (by omega)) (i14 3 (by omega))
  obtain ⟨g1, g2, g3, g5, g6⟩ := h4 hF
  have heq := hand_eq hm hD hs hsy g1 g2 g3 g5 (bc 0 (by omega)) (bc 1 (by omega)) (bc 2 (by omega)) (bc 3 (by omega)) g6 hbx
  refine tt_op rfl rfl ?_
  refine tt_op rfl rfl ?_
  refine tt_op rfl rfl ?_
  refine z_icmp rfl ⟨by omega, by omega⟩ ⟨by omega, by omega⟩ (fun c1 => ?_) (fun c1 => ?_)
  · simp only [zcd] at c1
    refine tt_op rfl rfl ?_
    refine tt_ireturn rfl rfl (by rfl) (Nat.le_of_ble_eq_true rfl) (Nat.le_of_ble_eq_true rfl) ?_
    rw [hv', if_neg (fun e2 => c1 (heq.1 e2))]
    exact ⟨rfl, h64' _, hgood _, rfl⟩
  · have c1' : bxs P (ba' 0) (ba' 1) (ba' 2) (ba' 3) = bxs P (imc i (ba' 0)) (imc i (ba' 1)) (imc i (ba' 2)) (imc i (ba' 3)) := by simp only [zcd] at c1; omega
    refine tt_op rfl rfl ?_
    refine tt_goto rfl ?_
    refine tt_ireturn rfl rfl (by rfl) (Nat.le_of_ble_eq_true rfl) (Nat.le_of_ble_eq_true rfl) ?_
    rw [hv', if_pos (heq.2 c1')]
    exact ⟨rfl, h64' _, hgood _, rfl⟩
end MF
