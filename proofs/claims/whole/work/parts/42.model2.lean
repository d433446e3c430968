/-! The reference: faces, rounds, building -/
def alB (p : Nat → Bool) : Nat → Bool
  | 0 => true
  | k + 1 => alB p k && p k
theorem alB_no {p : Nat → Bool} {r : Nat} (h : p r = false) : ∀ k, r < k → alB p k = false
  | 0, hk => absurd hk (by omega)
  | k + 1, hk => by
    unfold alB
    by_cases e : r = k
    · rw [← e, h]; simp
    · rw [alB_no h k (by omega)]; rfl
def lstB (p : Nat → Bool) : Nat → Int
  | 0 => -1
  | k + 1 => if p k = true then (k : Int) else lstB p k
theorem lstB_bd (p : Nat → Bool) : ∀ k, -1 ≤ lstB p k ∧ lstB p k < k
  | 0 => by show (-1 : Int) ≤ -1 ∧ (-1 : Int) < ((0 : Nat) : Int); omega
  | k + 1 => by
    have := lstB_bd p k
    unfold lstB
    split <;> omega
theorem and_bit (v r : Nat) : v &&& 2 ^ r = if v.testBit r = true then 2 ^ r else 0 := by
  apply Nat.eq_of_testBit_eq
  intro i
  rw [Nat.testBit_and, Nat.testBit_two_pow]
  by_cases h : v.testBit r = true
  · rw [if_pos h, Nat.testBit_two_pow]
    by_cases e : r = i
    · subst e; simp [h]
    · simp [e]
  · rw [if_neg h, Nat.zero_testBit]
    by_cases e : r = i
    · subst e; simp [h]
    · simp [e]
theorem and_lt {v w : Nat} (h : v < 16384) : v &&& w < 16384 := Nat.lt_of_le_of_lt Nat.and_le_left h
/-- no corner of the face but on the left of the way from p to q -/
def isNx (P : Nat → V3) (m S : Nat) (u : V3) (p q : Nat) : Bool := alB (fun r => decide (r = p ∨ r = q ∨ S.testBit r = false ∨ 0 < dot (crs P p q r) u)) m
def lyN (P : Nat → V3) (m S : Nat) (u : V3) (p : Nat) : Int := lstB (fun q => decide (q ≠ p) && S.testBit q && isNx P m S u p q) m
def rowOk (P : Nat → V3) (m S : Nat) (u : V3) (R : Nat → Nat) (L : Nat) : Prop :=
  (1 ≤ L ∧ L ≤ 14) ∧ (∀ k, k < L → R k < m) ∧ (S.testBit (R 0) = true ∧ ∀ j, j < R 0 → S.testBit j = false) ∧ (∀ k, k + 1 < L → lyN P m S u (R k) = (R (k + 1) : Int) ∧ R (k + 1) ≠ R 0) ∧ lyN P m S u (R (L - 1)) = (R 0 : Int)
theorem rowOk_cg {P : Nat → V3} {m S : Nat} {u : V3} {R R' : Nat → Nat} {L : Nat} (H : rowOk P m S u R L) (e : ∀ k, k < L → R' k = R k) : rowOk P m S u R' L := by
  obtain ⟨⟨a1, a2⟩, a3, a4, a5, a6⟩ := H
  refine ⟨⟨a1, a2⟩, fun k hk => by rw [e k hk]; exact a3 k hk, by rw [e 0 (by omega)]; exact a4, fun k hk => ?_, ?_⟩
  · rw [e k (by omega), e (k + 1) hk, e 0 (by omega)]; exact a5 k hk
  · rw [e (L - 1) (by omega), e 0 (by omega)]; exact a6
def lrW (fr : Nat → Nat) (f : Nat) (R : Nat → Nat) (L : Nat) : Nat → Nat := fun j => if 14 * f ≤ j ∧ j < 14 * f + L then R (j - 14 * f) else fr j
theorem lrW_s (fr : Nat → Nat) (f : Nat) (R : Nat → Nat) (L : Nat) : nup (lrW fr f R L) (14 * f + L) (R L) = lrW fr f R (L + 1) := by
  funext j
  unfold nup lrW
  by_cases h : j = 14 * f + L
  · rw [if_pos h, if_pos (by omega), h, show 14 * f + L - 14 * f = L by omega]
  · rw [if_neg h]
    by_cases h2 : 14 * f ≤ j ∧ j < 14 * f + L
    · rw [if_pos h2, if_pos (by omega)]
    · rw [if_neg h2, if_neg (by omega)]
theorem lrW_0 (fr : Nat → Nat) (f : Nat) (R : Nat → Nat) : lrW fr f R 0 = fr := by
  funext j; unfold lrW; rw [if_neg (by omega)]
def ibB (fr : Nat → Nat) (f g : Nat) : Bool := if fr (14 * f) ≠ fr (14 * g) then decide (fr (14 * f) < fr (14 * g)) else if fr (14 * f + 1) ≠ fr (14 * g + 1) then decide (fr (14 * f + 1) < fr (14 * g + 1)) else if fr (14 * f + 2) ≠ fr (14 * g + 2) then decide (fr (14 * f + 2) < fr (14 * g + 2)) else false
theorem ibB_0 {fr : Nat → Nat} {f g : Nat} (e : fr (14 * f + 0) ≠ fr (14 * g + 0)) : ibB fr f g = decide (fr (14 * f + 0) < fr (14 * g + 0)) := if_pos e
theorem ibB_1 {fr : Nat → Nat} {f g : Nat} (e0 : fr (14 * f + 0) = fr (14 * g + 0)) (e : fr (14 * f + 1) ≠ fr (14 * g + 1)) : ibB fr f g = decide (fr (14 * f + 1) < fr (14 * g + 1)) := (if_neg (fun z => z e0)).trans (if_pos e)
theorem ibB_2 {fr : Nat → Nat} {f g : Nat} (e0 : fr (14 * f + 0) = fr (14 * g + 0)) (e1 : fr (14 * f + 1) = fr (14 * g + 1)) (e : fr (14 * f + 2) ≠ fr (14 * g + 2)) : ibB fr f g = decide (fr (14 * f + 2) < fr (14 * g + 2)) := (if_neg (fun z => z e0)).trans ((if_neg (fun z => z e1)).trans (if_pos e))
theorem ibB_3 {fr : Nat → Nat} {f g : Nat} (e0 : fr (14 * f + 0) = fr (14 * g + 0)) (e1 : fr (14 * f + 1) = fr (14 * g + 1)) (e : fr (14 * f + 2) = fr (14 * g + 2)) : ibB fr f g = false := (if_neg (fun z => z e0)).trans ((if_neg (fun z => z e1)).trans (if_neg (fun z => z e)))
theorem ibB_self (fr : Nat → Nat) (f : Nat) : ibB fr f f = false := by unfold ibB; simp
theorem cnt_lt {p : Nat → Bool} {r : Nat} (h : p r = false) : ∀ k, r < k → cnt p k < k
  | 0, hk => absurd hk (by omega)
  | k + 1, hk => by
    unfold cnt
    by_cases e : r = k
    · rw [← e, h]
      have := cnt_le p r
      simp only [Bool.false_eq_true, if_false]
      omega
    · have := cnt_lt h k (by omega)
      split <;> omega
section M2
variable {h : xHp} {m : Nat} {P : Nat → V3} {bu tb fl co fa : Nat} {fb fs fr : Nat → Nat} {nn : Nat → V3} {lv : Nat → Int} {a : V3} {fat : Nat → Nat} {w : Int × V3} {cm : Int} {cX cY cZ cD su sv : Nat → Int} {tu : Nat} {im : Nat → Int} {rk ba : Nat → Nat} {go : Nat → Int}
variable {n : Nat}
set_option maxRecDepth 10000 in
theorem m_facesOf (hfa : fa ≤ 24) (hfb : ∀ j, j < 24 → fb j < 16384) (v : Nat) (hv : v < 16384) : xPure xmX6_facesOf 1 [.ref 64, zI v] n (mdH h m P bu tb fl co fa fb fs fr nn lv a fat w cm cX cY cZ cD su sv tu im rk ba go) (zI (cnt (fun f => decide (fb f &&& v = v)) fa)) := by
  refine xCall.of xgX6_facesOf rfl ?_
  refine tt_op rfl rfl ?_
  refine tt_op rfl rfl ?_
  refine tt_op rfl rfl ?_
  refine tt_op rfl rfl ?_
  have loop : ∀ (j f : Nat), f + j = fa → xT xmX6_facesOf (1, 0, 0, 0, 0) 4 [some (.ref 64), some (zI v), some (zI (cnt (fun f => decide (fb f &&& v = v)) f : Nat)), some (zI f)] [] n (mdH h m P bu tb fl co fa fb fs fr nn lv a fat w cm cX cY cZ cD su sv tu im rk ba go) (fun r n' h' => r = some (zI (cnt (fun f => decide (fb f &&& v = v)) fa)) ∧ n' = n ∧ h' = (mdH h m P bu tb fl co fa fb fs fr nn lv a fat w cm cX cY cZ cD su sv tu im rk ba go)) := by
    intro j
    induction j with
    | zero =>
      intro f hf
      have : f = fa := by omega
      subst this
      refine tt_op rfl rfl ?_
      refine tt_op rfl rfl ?_
      refine tt_get rfl md64 (by rfl) ?_
      refine z_icmp rfl (by first | assumption | (unfold R3; omega)) (by first | assumption | (unfold R3; omega)) (fun c => ?_) (fun c => absurd (by simp only [zcd] <;> omega) c)
      refine tt_op rfl rfl ?_
      refine tt_ireturn rfl rfl (by rfl) (Nat.le_of_ble_eq_true rfl) (Nat.le_of_ble_eq_true rfl) ?_
      exact ⟨rfl, rfl, rfl⟩
    | succ j ih =>
      intro f hf
      have hbf := and_lt (w := v) (hfb f (by omega))
      refine tt_op rfl rfl ?_
      refine tt_op rfl rfl ?_
      refine tt_get rfl md64 (by rfl) ?_
      refine z_icmp rfl (by first | assumption | (unfold R3; omega)) (by first | assumption | (unfold R3; omega)) (fun c => absurd c (by simp only [zcd] <;> omega)) (fun c => ?_)
      refine tt_op rfl rfl ?_
      refine tt_op rfl rfl ?_
      refine tt_get rfl md64 (by rfl) ?_
      refine tt_op rfl rfl ?_
      refine z_iald rfl md68 rfl (by omega) (by decide) ?_
      refine tt_op rfl rfl ?_
      refine z_iand rfl ?_
      refine tt_op rfl rfl ?_
      have nxt : ∀ x : Nat, x = (if decide (fb f &&& v = v) = true then 1 else 0) → xT xmX6_facesOf (1, 0, 0, 0, 0) 30 [some (.ref 64), some (zI v), some (zI (cnt (fun f => decide (fb f &&& v = v)) f : Nat)), some (zI f)] [zI x, zI (cnt (fun f => decide (fb f &&& v = v)) f : Nat)] n (mdH h m P bu tb fl co fa fb fs fr nn lv a fat w cm cX cY cZ cD su sv tu im rk ba go) (fun r n' h' => r = some (zI (cnt (fun f => decide (fb f &&& v = v)) fa)) ∧ n' = n ∧ h' = (mdH h m P bu tb fl co fa fb fs fr nn lv a fat w cm cX cY cZ cD su sv tu im rk ba go)) := by
        intro x hx
        refine z_iadd rfl ?_
        refine tt_op rfl rfl ?_
        refine z_iinc rfl rfl rfl ?_
        refine tt_goto rfl ?_
        have e : ((cnt (fun f => decide (fb f &&& v = v)) f : Nat) : Int) + (x : Int) = ((cnt (fun f => decide (fb f &&& v = v)) (f + 1) : Nat) : Int) := by
          rw [hx]
          show _ = (((cnt (fun f => decide (fb f &&& v = v)) f + (if decide (fb f &&& v = v) = true then 1 else 0) : Nat)) : Int)
          omega
        rw [e]
        exact ih (f + 1) (by omega)
      refine z_icmp rfl (by first | assumption | (unfold R3; omega)) (by first | assumption | (unfold R3; omega)) (fun ce => ?_) (fun ce => ?_)
      · simp only [zcd] at ce
        refine tt_op rfl rfl ?_
        exact nxt 0 (by rw [decide_eq_false (by omega)]; rfl)
      · simp only [zcd] at ce
        refine tt_op rfl rfl ?_
        refine tt_goto rfl ?_
        exact nxt 1 (by rw [decide_eq_true (by omega)]; rfl)
  exact loop fa 0 (by omega)
set_option maxRecDepth 10000 in
set_option maxHeartbeats 1000000 in
theorem m_isNext (hb : pbd P) (hm : m ≤ 14) {f p q : Nat} (hf : f < 24) (hp : p < 14) (hq : q < 14) (hfb : fb f < 16384) (hnn : vbd 3200 (nn f)) : xCall xmX6_isNext 2 0 0 [.ref 64, zI f, zI p, zI q] n (mdH h m P bu tb fl co fa fb fs fr nn lv a fat w cm cX cY cZ cD su sv tu im rk ba go) (fun res n' h' => res = some (zI (if isNx P m (fb f &&& co) (nn f) p q = true then 1 else 0)) ∧ n' = n ∧ ∃ a', h' = (mdH h m P bu tb fl co fa fb fs fr nn lv (a') fat w cm cX cY cZ cD su sv tu im rk ba go)) := by
  refine xCall.of xgX6_isNext rfl ?_
  refine tt_op rfl rfl ?_
  refine tt_op rfl rfl ?_
  have hS : fb f &&& co < 16384 := and_lt hfb
  have loop : ∀ (j r : Nat) (a : V3), r + j = m → alB (fun r => decide (r = p ∨ r = q ∨ (fb f &&& co).testBit r = false ∨ 0 < dot (crs P p q r) (nn f))) r = true → xT xmX6_isNext (2, 0, 0, 0, 0) 3 [some (.ref 64), some (zI f), some (zI p), some (zI q), some (zI r)] [] n (mdH h m P bu tb fl co fa fb fs fr nn lv a fat w cm cX cY cZ cD su sv tu im rk ba go) (fun res n' h' => res = some (zI (if isNx P m (fb f &&& co) (nn f) p q = true then 1 else 0)) ∧ n' = n ∧ ∃ a', h' = (mdH h m P bu tb fl co fa fb fs fr nn lv (a') fat w cm cX cY cZ cD su sv tu im rk ba go)) := by
    intro j
    induction j with
    | zero =>
      intro r a hr hal
      have : r = m := by omega
      subst this
      refine tt_op rfl rfl ?_
      refine tt_op rfl rfl ?_
      refine tt_get rfl md64 (by rfl) ?_
      refine z_icmp rfl (by first | assumption | (unfold R3; omega)) (by first | assumption | (unfold R3; omega)) (fun c => ?_) (fun c => absurd (by simp only [zcd] <;> omega) c)
      refine tt_op rfl rfl ?_
      refine tt_ireturn rfl rfl (by rfl) (Nat.le_of_ble_eq_true rfl) (Nat.le_of_ble_eq_true rfl) ?_
      unfold isNx
      rw [hal]
      exact ⟨rfl, rfl, a, rfl⟩
    | succ j ih =>
      intro r a hr hal
      have nxt : ∀ a, (r = p ∨ r = q ∨ (fb f &&& co).testBit r = false ∨ 0 < dot (crs P p q r) (nn f)) → xT xmX6_isNext (2, 0, 0, 0, 0) 94 [some (.ref 64), some (zI f), some (zI p), some (zI q), some (zI r)] [] n (mdH h m P bu tb fl co fa fb fs fr nn lv a fat w cm cX cY cZ cD su sv tu im rk ba go) (fun res n' h' => res = some (zI (if isNx P m (fb f &&& co) (nn f) p q = true then 1 else 0)) ∧ n' = n ∧ ∃ a', h' = (mdH h m P bu tb fl co fa fb fs fr nn lv (a') fat w cm cX cY cZ cD su sv tu im rk ba go)) := by
        intro a hok
        refine z_iinc rfl rfl rfl ?_
        refine tt_goto rfl ?_
        refine ih (r + 1) a (by omega) ?_
        show (alB _ r && decide _) = true
        rw [hal, decide_eq_true hok]
        rfl
      refine tt_op rfl rfl ?_
      refine tt_op rfl rfl ?_
      refine tt_get rfl md64 (by rfl) ?_
      refine z_icmp rfl (by first | assumption | (unfold R3; omega)) (by first | assumption | (unfold R3; omega)) (fun c => absurd c (by simp only [zcd] <;> omega)) (fun c => ?_)
      refine tt_op rfl rfl ?_
      refine tt_op rfl rfl ?_
      refine z_icmp rfl (by first | assumption | (unfold R3; omega)) (by first | assumption | (unfold R3; omega)) (fun c1 => ?_) (fun c1 => ?_)
      · simp only [zcd] at c1
        exact nxt a (Or.inl (by omega))
      simp only [zcd] at c1
      refine tt_op rfl rfl ?_
      refine tt_op rfl rfl ?_
      refine z_icmp rfl (by first | assumption | (unfold R3; omega)) (by first | assumption | (unfold R3; omega)) (fun c2 => ?_) (fun c2 => ?_)
      · simp only [zcd] at c2
        exact nxt a (Or.inr (Or.inl (by omega)))
      simp only [zcd] at c2
      refine tt_op rfl rfl ?_
      refine tt_get rfl md64 (by rfl) ?_
      refine tt_op rfl rfl ?_
      refine z_iald rfl md68 rfl (by omega) (by decide) ?_
      refine tt_op rfl rfl ?_
      refine tt_get rfl md64 (by rfl) ?_
      refine z_iand rfl ?_
      refine tt_op rfl rfl ?_
      refine tt_op rfl rfl ?_
      refine z_shl1 rfl (by omega) ?_
      refine z_iand rfl ?_
      rw [and_bit]
      by_cases hbit : (fb f &&& co).testBit r = true
      rotate_left
      · rw [if_neg hbit]
        refine z_if rfl (by first | assumption | (unfold R3; omega)) (fun c => absurd c (by simp only [zcd] <;> omega)) (fun c => ?_)
        refine tt_goto rfl ?_
        exact nxt a (Or.inr (Or.inr (Or.inl (by simpa using hbit))))
      rw [if_pos hbit]
      have hpw : 0 < 2 ^ r := Nat.pow_pos (by decide)
      have hpl := bits_pow (show r < 14 by omega)
      refine z_if rfl (by first | assumption | (unfold R3; omega)) (fun c => ?_) (fun c => absurd (by simp only [zcd] <;> omega) c)
      refine tt_op rfl rfl ?_
      refine tt_op rfl rfl ?_
      refine tt_op rfl rfl ?_
      refine tt_op rfl rfl ?_
      refine tt_callV (M' := xmX6_cross) rfl rfl rfl md64 rfl (m_cross hp hq (show r < 14 by omega)) ?_
      rintro res n' h' ⟨rfl, rfl, rfl⟩
      have hd := dot_bd (crs_bd hb hp hq (show r < 14 by omega)) hnn
      have hR : R3 (dot (crs P p q r) (nn f)) := ⟨by omega, by omega⟩
      refine tt_op rfl rfl ?_
      refine tt_get rfl md64 (by rfl) ?_
      refine tt_op rfl rfl ?_
      refine tt_get rfl md64 (by rfl) ?_
      refine tt_op rfl rfl ?_
      refine z_iald rfl md71 rfl (by omega) (by decide) ?_
      refine z_imul rfl ?_
      refine tt_op rfl rfl ?_
      refine tt_get rfl md64 (by rfl) ?_
      refine tt_op rfl rfl ?_
      refine tt_get rfl md64 (by rfl) ?_
      refine tt_op rfl rfl ?_
      refine z_iald rfl md72 rfl (by omega) (by decide) ?_
      refine z_imul rfl ?_
      refine z_iadd rfl ?_
      refine tt_op rfl rfl ?_
      refine tt_get rfl md64 (by rfl) ?_
      refine tt_op rfl rfl ?_
      refine tt_get rfl md64 (by rfl) ?_
      refine tt_op rfl rfl ?_
      refine z_iald rfl md73 rfl (by omega) (by decide) ?_
      refine z_imul rfl ?_
      refine z_iadd rfl ?_
      refine z_if rfl hR (fun c3 => ?_) (fun c3 => ?_)
      · have c3 : 0 < dot (crs P p q r) (nn f) := c3
        exact nxt _ (Or.inr (Or.inr (Or.inr c3)))
      · have c3 : ¬ 0 < dot (crs P p q r) (nn f) := c3
        refine tt_op rfl rfl ?_
        refine tt_ireturn rfl rfl (by rfl) (Nat.le_of_ble_eq_true rfl) (Nat.le_of_ble_eq_true rfl) ?_
        unfold isNx
        rw [alB_no (r := r) (by
          refine decide_eq_false ?_
          rintro (z | z | z | z)
          · omega
          · omega
          · rw [hbit] at z; cases z
          · exact c3 z) m (by omega)]
        exact ⟨rfl, rfl, _, rfl⟩
  exact loop m 0 a (by omega) rfl
set_option maxRecDepth 10000 in
set_option maxHeartbeats 2000000 in
theorem m_layRound (hb : pbd P) (hm : m ≤ 14) {f : Nat} (hf : f < 24) (hfb : fb f < 16384) (hnn : vbd 3200 (nn f)) (R : Nat → Nat) (L : Nat) (H : rowOk P m (fb f &&& co) (nn f) R L) : xCall xmX6_layRound 3 0 0 [.ref 64, zI f] n (mdH h m P bu tb fl co fa fb fs fr nn lv a fat w cm cX cY cZ cD su sv tu im rk ba go) (fun res n' h' => res = none ∧ n' = n ∧ ∃ a', h' = (mdH h m P bu tb fl co fa fb (nup fs f L) (lrW fr f R L) nn lv (a') fat w cm cX cY cZ cD su sv tu im rk ba go)) := by
  obtain ⟨⟨L1, L2⟩, hR, ⟨hR0, hR1⟩, hst, hla⟩ := H
  have hS : fb f &&& co < 16384 := and_lt hfb
  refine xCall.of xgX6_layRound rfl ?_
  refine tt_op rfl rfl ?_
  refine tt_get rfl md64 (by rfl) ?_
  refine tt_op rfl rfl ?_
  refine z_iald rfl md68 rfl (by omega) (by decide) ?_
  refine tt_op rfl rfl ?_
  refine tt_get rfl md64 (by rfl) ?_
  refine z_iand rfl ?_
  refine tt_op rfl rfl ?_
  refine tt_op rfl rfl ?_
  refine tt_op rfl rfl ?_
  generalize hSe : fb f &&& co = S at *
  have find : ∀ (j k : Nat), k + j = R 0 → xT xmX6_layRound (3, 0, 0, 0, 0) 14 [some (.ref 64), some (zI f), some (zI S), some (zI k), none, none, none, none] [] n (mdH h m P bu tb fl co fa fb fs fr nn lv a fat w cm cX cY cZ cD su sv tu im rk ba go) (fun res n' h' => res = none ∧ n' = n ∧ ∃ a', h' = (mdH h m P bu tb fl co fa fb (nup fs f L) (lrW fr f R L) nn lv (a') fat w cm cX cY cZ cD su sv tu im rk ba go)) := by
    intro j
    induction j with
    | succ j ih =>
      intro k hk
      have := hR 0 (by omega)
      have hno := hR1 k (by omega)
      refine tt_op rfl rfl ?_
      refine tt_op rfl rfl ?_
      refine z_tb rfl rfl rfl (by omega) (by omega) ?_
      rw [hno]
      simp only [Bool.false_eq_true, if_false]
      refine z_if rfl (by first | assumption | (unfold R3; omega)) (fun c => absurd c (by simp only [zcd] <;> omega)) (fun c => ?_)
      refine z_iinc rfl rfl rfl ?_
      refine tt_goto rfl ?_
      exact ih (k + 1) (by omega)
    | zero =>
      intro k hk
      have e : k = R 0 := by omega
      subst e
      have hR0m := hR 0 (by omega)
      refine tt_op rfl rfl ?_
      refine tt_op rfl rfl ?_
      refine z_tb rfl rfl rfl (by omega) (by omega) ?_
      rw [hR0]
      simp only [if_true]
      refine z_if rfl (by first | assumption | (unfold R3; omega)) (fun c => ?_) (fun c => absurd (by simp only [zcd] <;> omega) c)
      refine tt_op rfl rfl ?_
      refine tt_op rfl rfl ?_
      refine tt_op rfl rfl ?_
      refine tt_op rfl rfl ?_
      have steps : ∀ (j s : Nat) (a : V3) (l6 l7 : Option Value), s + j + 1 = L → xT xmX6_layRound (3, 0, 0, 0, 0) 34 [some (.ref 64), some (zI f), some (zI S), some (zI (R 0)), some (zI (R s)), some (zI s), l6, l7] [] n (mdH h m P bu tb fl co fa fb fs (lrW fr f R s) nn lv a fat w cm cX cY cZ cD su sv tu im rk ba go) (fun res n' h' => res = none ∧ n' = n ∧ ∃ a', h' = (mdH h m P bu tb fl co fa fb (nup fs f L) (lrW fr f R L) nn lv (a') fat w cm cX cY cZ cD su sv tu im rk ba go)) := by
        have inner : ∀ (s : Nat) (Q : xQt), s < L → (∀ a, xT xmX6_layRound (3, 0, 0, 0, 0) 105 [some (.ref 64), some (zI f), some (zI S), some (zI (R 0)), some (zI (R s)), some (zI (s + 1 : Nat)), some (zI (lyN P m S (nn f) (R s))), some (zI m)] [] n (mdH h m P bu tb fl co fa fb fs (lrW fr f R (s + 1)) nn lv a fat w cm cX cY cZ cD su sv tu im rk ba go) Q) → ∀ (j q : Nat) (a : V3), q + j = m → xT xmX6_layRound (3, 0, 0, 0, 0) 57 [some (.ref 64), some (zI f), some (zI S), some (zI (R 0)), some (zI (R s)), some (zI (s + 1 : Nat)), some (zI (lstB (fun q => decide (q ≠ R s) && S.testBit q && isNx P m S (nn f) (R s) q) q)), some (zI q)] [] n (mdH h m P bu tb fl co fa fb fs (lrW fr f R (s + 1)) nn lv a fat w cm cX cY cZ cD su sv tu im rk ba go) Q := by
          intro s Q hs hfin j
          have hRs := hR s hs
          induction j with
          | zero =>
            intro q a hq
            have : q = m := by omega
            subst this
            refine tt_op rfl rfl ?_
            refine tt_op rfl rfl ?_
            refine tt_get rfl md64 (by rfl) ?_
            refine z_icmp rfl (by first | assumption | (unfold R3; omega)) (by first | assumption | (unfold R3; omega)) (fun c => ?_) (fun c => absurd (by simp only [zcd] <;> omega) c)
            exact hfin a
          | succ j ih =>
            intro q a hq
            have no : ∀ a, (decide (q ≠ R s) && S.testBit q && isNx P m S (nn f) (R s) q) = false → xT xmX6_layRound (3, 0, 0, 0, 0) 99 [some (.ref 64), some (zI f), some (zI S), some (zI (R 0)), some (zI (R s)), some (zI (s + 1 : Nat)), some (zI (lstB (fun q => decide (q ≠ R s) && S.testBit q && isNx P m S (nn f) (R s) q) q)), some (zI q)] [] n (mdH h m P bu tb fl co fa fb fs (lrW fr f R (s + 1)) nn lv a fat w cm cX cY cZ cD su sv tu im rk ba go) Q := by
              intro a hno
              refine z_iinc rfl rfl rfl ?_
              refine tt_goto rfl ?_
              have e : lstB (fun q => decide (q ≠ R s) && S.testBit q && isNx P m S (nn f) (R s) q) (q + 1) = lstB (fun q => decide (q ≠ R s) && S.testBit q && isNx P m S (nn f) (R s) q) q := by
                show (if (decide (q ≠ R s) && S.testBit q && isNx P m S (nn f) (R s) q) = true then (q : Int) else _) = _
                rw [hno]; rfl
              rw [← e]
              exact ih (q + 1) a (by omega)
            refine tt_op rfl rfl ?_
            refine tt_op rfl rfl ?_
            refine tt_get rfl md64 (by rfl) ?_
            refine z_icmp rfl (by first | assumption | (unfold R3; omega)) (by first | assumption | (unfold R3; omega)) (fun c => absurd c (by simp only [zcd] <;> omega)) (fun c => ?_)
            refine tt_op rfl rfl ?_
            refine tt_op rfl rfl ?_
            refine z_icmp rfl (by first | assumption | (unfold R3; omega)) (by first | assumption | (unfold R3; omega)) (fun c1 => ?_) (fun c1 => ?_)
            · simp only [zcd] at c1
              exact no a (by rw [decide_eq_false (by omega)]; rfl)
            simp only [zcd] at c1
            refine tt_op rfl rfl ?_
            refine tt_op rfl rfl ?_
            refine z_tb rfl rfl rfl (by omega) (by omega) ?_
            refine tt_op rfl rfl ?_
            refine z_icmp rfl (z_b01 _) ⟨by decide, by decide⟩ (fun c2 => ?_) (fun c2 => ?_)
            · have hx : S.testBit q = false := by cases hx : S.testBit q <;> simp_all [zcd]
              exact no a (by rw [hx]; simp)
            have hx : S.testBit q = true := by cases hx : S.testBit q <;> simp_all [zcd]
            refine tt_op rfl rfl ?_
            refine tt_op rfl rfl ?_
            refine tt_op rfl rfl ?_
            refine tt_op rfl rfl ?_
            refine tt_callV (M' := xmX6_isNext) rfl rfl rfl md64 rfl (m_isNext hb hm hf (show R s < 14 by omega) (show q < 14 by omega) hfb hnn) ?_
            rintro res n' h' ⟨rfl, rfl, a', rfl⟩
            rw [hSe]
            refine z_if rfl (z_b01 _) (fun c3 => ?_) (fun c3 => ?_)
            · have hy : isNx P m S (nn f) (R s) q = false := by cases hy : isNx P m S (nn f) (R s) q <;> simp_all [zcd]
              exact no a' (by rw [hy]; simp)
            · have hy : isNx P m S (nn f) (R s) q = true := by cases hy : isNx P m S (nn f) (R s) q <;> simp_all [zcd]
              have e : lstB (fun q => decide (q ≠ R s) && S.testBit q && isNx P m S (nn f) (R s) q) (q + 1) = (q : Int) := by
                show (if (decide (q ≠ R s) && S.testBit q && isNx P m S (nn f) (R s) q) = true then (q : Int) else _) = _
                rw [hx, hy, decide_eq_true (by omega)]; rfl
              refine tt_op rfl rfl ?_
              refine tt_op rfl rfl ?_
              refine z_iinc rfl rfl rfl ?_
              refine tt_goto rfl ?_
              have t := ih (q + 1) a' (by omega)
              rw [e] at t
              exact t
        intro j
        induction j with
        | zero =>
          intro s a l6 l7 hs
          have hRs := hR s (by omega)
          refine tt_op rfl rfl ?_
          refine tt_get rfl md64 (by rfl) ?_
          refine tt_op rfl rfl ?_
          refine tt_op rfl rfl ?_
          refine z_imul rfl ?_
          refine tt_op rfl rfl ?_
          refine z_iadd rfl ?_
          refine tt_op rfl rfl ?_
          refine md_s70 (j := 14 * f + s) rfl (by omega) (by omega) ?_
          rw [lrW_s]
          refine z_iinc rfl rfl rfl ?_
          refine tt_op rfl rfl ?_
          refine tt_op rfl rfl ?_
          refine tt_op rfl rfl ?_
          refine tt_op rfl rfl ?_
          refine inner s _ (by omega) (fun a => ?_) m 0 a (by omega)
          have hn := hla
          rw [show L - 1 = s by omega] at hn
          rw [hn]
          refine tt_op rfl rfl ?_
          refine tt_op rfl rfl ?_
          refine tt_op rfl rfl ?_
          refine tt_op rfl rfl ?_
          refine z_icmp rfl (by first | assumption | (unfold R3; omega)) (by first | assumption | (unfold R3; omega)) (fun c => absurd c (by simp only [zcd] <;> omega)) (fun c => ?_)
          refine tt_op rfl rfl ?_
          refine tt_get rfl md64 (by rfl) ?_
          refine tt_op rfl rfl ?_
          refine tt_op rfl rfl ?_
          rw [show s + 1 = L by omega]
          refine md_s69 rfl rfl hf ?_
          refine tt_return rfl rfl (Nat.le_of_ble_eq_true rfl) (Nat.le_of_ble_eq_true rfl) ?_
          exact ⟨rfl, rfl, a, rfl⟩
        | succ j ih =>
          intro s a l6 l7 hs
          have hRs := hR s (by omega)
          have hRs1 := hR (s + 1) (by omega)
          refine tt_op rfl rfl ?_
          refine tt_get rfl md64 (by rfl) ?_
          refine tt_op rfl rfl ?_
          refine tt_op rfl rfl ?_
          refine z_imul rfl ?_
          refine tt_op rfl rfl ?_
          refine z_iadd rfl ?_
          refine tt_op rfl rfl ?_
          refine md_s70 (j := 14 * f + s) rfl (by omega) (by omega) ?_
          rw [lrW_s]
          refine z_iinc rfl rfl rfl ?_
          refine tt_op rfl rfl ?_
          refine tt_op rfl rfl ?_
          refine tt_op rfl rfl ?_
          refine tt_op rfl rfl ?_
          refine inner s _ (by omega) (fun a => ?_) m 0 a (by omega)
          obtain ⟨hn, hne⟩ := hst s (by omega)
          rw [hn]
          refine tt_op rfl rfl ?_
          refine tt_op rfl rfl ?_
          refine tt_op rfl rfl ?_
          refine tt_op rfl rfl ?_
          refine z_icmp rfl (by first | assumption | (unfold R3; omega)) (by first | assumption | (unfold R3; omega)) (fun c => ?_) (fun c => absurd (by simp only [zcd] <;> omega) c)
          exact ih (s + 1) a _ _ (by omega)
      have t := steps (L - 1) 0 a none none (by omega)
      rw [lrW_0] at t
      exact t
  exact find (R 0) 0 (by omega)
set_option maxRecDepth 10000 in
theorem m_isBefore (hfr : ∀ j, j < 336 → fr j < 14) {f g : Nat} (hf : f < 24) (hg : g < 24) : xPure xmX6_isBefore 1 [.ref 64, zI f, zI g] n (mdH h m P bu tb fl co fa fb fs fr nn lv a fat w cm cX cY cZ cD su sv tu im rk ba go) (zI (if ibB fr f g = true then 1 else 0)) := by
  refine xCall.of xgX6_isBefore rfl ?_
  have step : ∀ (k : Nat) (Q : xQt), k < 3 → (fr (14 * f + k) ≠ fr (14 * g + k) → fr (14 * f + k) < fr (14 * g + k) → Q (some (zI 1)) n (mdH h m P bu tb fl co fa fb fs fr nn lv a fat w cm cX cY cZ cD su sv tu im rk ba go)) → (fr (14 * f + k) ≠ fr (14 * g + k) → ¬ fr (14 * f + k) < fr (14 * g + k) → Q (some (zI 0)) n (mdH h m P bu tb fl co fa fb fs fr nn lv a fat w cm cX cY cZ cD su sv tu im rk ba go)) → (fr (14 * f + k) = fr (14 * g + k) → xT xmX6_isBefore (1, 0, 0, 0, 0) 2 [some (.ref 64), some (zI f), some (zI g), some (zI (k + 1 : Nat))] [] n (mdH h m P bu tb fl co fa fb fs fr nn lv a fat w cm cX cY cZ cD su sv tu im rk ba go) Q) → xT xmX6_isBefore (1, 0, 0, 0, 0) 2 [some (.ref 64), some (zI f), some (zI g), some (zI k)] [] n (mdH h m P bu tb fl co fa fb fs fr nn lv a fat w cm cX cY cZ cD su sv tu im rk ba go) Q := by
    intro k Q hk q1 q0 qn
    have h1 := hfr (14 * f + k) (by omega)
    have h2 := hfr (14 * g + k) (by omega)
    refine tt_op rfl rfl ?_
    refine tt_op rfl rfl ?_
    refine z_icmp rfl (by first | assumption | (unfold R3; omega)) (by first | assumption | (unfold R3; omega)) (fun c => absurd c (by simp only [zcd] <;> omega)) (fun c => ?_)
    refine tt_op rfl rfl ?_
    refine tt_get rfl md64 (by rfl) ?_
    refine tt_op rfl rfl ?_
    refine tt_op rfl rfl ?_
    refine z_imul rfl ?_
    refine tt_op rfl rfl ?_
    refine z_iadd rfl ?_
    refine z_iald (j := 14 * f + k) rfl md70 (by omega) (by omega) (by decide) ?_
    refine tt_op rfl rfl ?_
    refine tt_get rfl md64 (by rfl) ?_
    refine tt_op rfl rfl ?_
    refine tt_op rfl rfl ?_
    refine z_imul rfl ?_
    refine tt_op rfl rfl ?_
    refine z_iadd rfl ?_
    refine z_iald (j := 14 * g + k) rfl md70 (by omega) (by omega) (by decide) ?_
    refine z_icmp rfl (by first | assumption | (unfold R3; omega)) (by first | assumption | (unfold R3; omega)) (fun c1 => ?_) (fun c1 => ?_)
    · simp only [zcd] at c1
      refine z_iinc rfl rfl rfl ?_
      refine tt_goto rfl ?_
      exact qn (by omega)
    simp only [zcd] at c1
    refine tt_op rfl rfl ?_
    refine tt_get rfl md64 (by rfl) ?_
    refine tt_op rfl rfl ?_
    refine tt_op rfl rfl ?_
    refine z_imul rfl ?_
    refine tt_op rfl rfl ?_
    refine z_iadd rfl ?_
    refine z_iald (j := 14 * f + k) rfl md70 (by omega) (by omega) (by decide) ?_
    refine tt_op rfl rfl ?_
    refine tt_get rfl md64 (by rfl) ?_
    refine tt_op rfl rfl ?_
    refine tt_op rfl rfl ?_
    refine z_imul rfl ?_
    refine tt_op rfl rfl ?_
    refine z_iadd rfl ?_
    refine z_iald (j := 14 * g + k) rfl md70 (by omega) (by omega) (by decide) ?_
    refine z_icmp rfl (by first | assumption | (unfold R3; omega)) (by first | assumption | (unfold R3; omega)) (fun c2 => ?_) (fun c2 => ?_)
    · simp only [zcd] at c2
      refine tt_op rfl rfl ?_
      refine tt_ireturn rfl rfl (by rfl) (Nat.le_of_ble_eq_true rfl) (Nat.le_of_ble_eq_true rfl) ?_
      exact q0 (by omega) (by omega)
    · simp only [zcd] at c2
      refine tt_op rfl rfl ?_
      refine tt_goto rfl ?_
      refine tt_ireturn rfl rfl (by rfl) (Nat.le_of_ble_eq_true rfl) (Nat.le_of_ble_eq_true rfl) ?_
      exact q1 (by omega) (by omega)
  refine tt_op rfl rfl ?_
  refine tt_op rfl rfl ?_
  refine step 0 _ (by omega) (fun e l => ?_) (fun e l => ?_) (fun e0 => ?_)
  · rw [ibB_0 e, decide_eq_true l]; exact ⟨rfl, rfl, rfl⟩
  · rw [ibB_0 e, decide_eq_false l]; exact ⟨rfl, rfl, rfl⟩
  refine step 1 _ (by omega) (fun e l => ?_) (fun e l => ?_) (fun e1 => ?_)
  · rw [ibB_1 e0 e, decide_eq_true l]; exact ⟨rfl, rfl, rfl⟩
  · rw [ibB_1 e0 e, decide_eq_false l]; exact ⟨rfl, rfl, rfl⟩
  refine step 2 _ (by omega) (fun e l => ?_) (fun e l => ?_) (fun e2 => ?_)
  · rw [ibB_2 e0 e1 e, decide_eq_true l]; exact ⟨rfl, rfl, rfl⟩
  · rw [ibB_2 e0 e1 e, decide_eq_false l]; exact ⟨rfl, rfl, rfl⟩
  rw [ibB_3 e0 e1 e2]
  refine tt_op rfl rfl ?_
  refine tt_op rfl rfl ?_
  refine z_icmp rfl (by first | assumption | (unfold R3; omega)) (by first | assumption | (unfold R3; omega)) (fun c => ?_) (fun c => absurd (by simp only [zcd] <;> omega) c)
  refine tt_op rfl rfl ?_
  refine tt_ireturn rfl rfl (by rfl) (Nat.le_of_ble_eq_true rfl) (Nat.le_of_ble_eq_true rfl) ?_
  exact ⟨rfl, rfl, rfl⟩
end M2
