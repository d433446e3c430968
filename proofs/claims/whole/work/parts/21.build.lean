/-! The weight, and the whole building -/
abbrev mA (mo : Nat → Int) : xE := zL 3 mo
/-- one body with point 0 -/
def wPt (P : Nat → V3) (p q r : Nat) : Int := -bxs P p q r 0
def wMo (P : Nat → V3) (p q r : Nat) (mo : Nat → Int) : Nat → Int := fun ax => if ax < 3 then mo ax + wPt P p q r * (vax (P p) ax + vax (P q) ax + vax (P r) ax + vax (P 0) ax) else mo ax
theorem vax_bd {u : V3} (hu : vbd 20 u) (ax : Nat) : -20 ≤ vax u ax ∧ vax u ax ≤ 20 := by
  obtain ⟨h1, h2, h3⟩ := hu
  unfold vax
  split
  · exact h1
  · split
    · exact h2
    · exact h3
section WG
variable {h : xHp} {m : Nat} {P : Nat → V3} {n : Nat} {ad : Nat → Nat} {f : Nat → FD} {F E CB : Nat} {six : Int}
set_option maxRecDepth 10000 in
set_option maxHeartbeats 1000000 in
theorem c_weigh1_loop (HC : xCl h m P) (p q r : Nat) (hp : p < 14) (hq : q < 14) (hr : r < 14) (h5 : h 5 = some (huC F E CB six)) (mo0 : Nat → Int) : ∀ (k ax : Nat) (mo : Nat → Int) (l7 : Option Value), ax + k = 3 → (∀ j, j < ax → mo j = wMo P p q r mo0 j) → (∀ j, ax ≤ j → mo j = mo0 j) → xT xmX1_weighOne (4, 0, 0, 0, 0) 28 [some (.ref 5), some (zI p), some (zI q), some (zI r), some (zJ (wPt P p q r)), none, some (zI ax), l7] [] n (xup h 8 (mA mo)) (fun res n' h' => res = none ∧ n' = n ∧ h' = xup h 8 (mA (wMo P p q r mo0))) := by
  have hb := HC.2.2.2.2.2
  intro k
  induction k with
  | zero =>
    intro ax mo l7 hax h1 h2
    refine tt_op rfl rfl ?_
    refine tt_op rfl rfl ?_
    refine z_icmp rfl (by first | assumption | (unfold R3; omega)) (by first | assumption | (unfold R3; omega)) (fun c => ?_) (fun c => absurd (by simp only [zcd] <;> omega) c)
    refine tt_return rfl rfl (Nat.le_of_ble_eq_true rfl) (Nat.le_of_ble_eq_true rfl) ?_
    refine ⟨rfl, rfl, ?_⟩
    congr 2
    have e : mo = wMo P p q r mo0 := by
      funext j
      rcases Nat.lt_or_ge j ax with z | z
      · exact h1 j z
      · rw [h2 j z]; unfold wMo; rw [if_neg (by omega)]
    rw [e]
  | succ k ih =>
    intro ax mo l7 hax h1 h2
    have K := xCl_up (e := mA mo) (show 5 ≤ 8 by omega) HC
    have k1 := K.1
    have h5' : xup h 8 (mA mo) 5 = some (huC F E CB six) := by rw [xup_n (by omega)]; exact h5
    have b1 := vax_bd (hb p hp) ax
    have b2 := vax_bd (hb q hq) ax
    have b3 := vax_bd (hb r hr) ax
    have b4 := vax_bd (hb 0 (by omega)) ax
    refine tt_op rfl rfl ?_
    refine tt_op rfl rfl ?_
    refine z_icmp rfl (by first | assumption | (unfold R3; omega)) (by first | assumption | (unfold R3; omega)) (fun c => absurd c (by simp only [zcd] <;> omega)) (fun c => ?_)
    refine tt_op rfl rfl ?_
    refine tt_get rfl (by assumption) (by rfl) ?_
    refine tt_op rfl rfl ?_
    refine tt_op rfl rfl ?_
    refine tt_pV rfl rfl rfl k1 rfl (c_number K p ax hp (by omega)) ?_
    refine tt_op rfl rfl ?_
    refine tt_get rfl (by assumption) (by rfl) ?_
    refine tt_op rfl rfl ?_
    refine tt_op rfl rfl ?_
    refine tt_pV rfl rfl rfl k1 rfl (c_number K q ax hq (by omega)) ?_
    refine z_iadd rfl ?_
    refine tt_op rfl rfl ?_
    refine tt_get rfl (by assumption) (by rfl) ?_
    refine tt_op rfl rfl ?_
    refine tt_op rfl rfl ?_
    refine tt_pV rfl rfl rfl k1 rfl (c_number K r ax hr (by omega)) ?_
    refine z_iadd rfl ?_
    refine tt_op rfl rfl ?_
    refine tt_op rfl rfl ?_
    refine tt_get rfl (by assumption) (by rfl) ?_
    refine tt_op rfl rfl ?_
    refine tt_op rfl rfl ?_
    refine z_lald rfl xup_s rfl (by omega) (by decide) ?_
    refine tt_op rfl rfl ?_
    refine tt_op rfl rfl ?_
    refine tt_op rfl rfl ?_
    refine tt_get rfl (by assumption) (by rfl) ?_
    refine tt_op rfl rfl ?_
    refine tt_op rfl rfl ?_
    refine tt_pV rfl rfl rfl k1 rfl (c_number K 0 ax (by omega) (by omega)) ?_
    refine z_iadd rfl ?_
    refine z_il rfl (by first | assumption | (unfold R3; omega)) ?_
    refine z_lmul rfl ?_
    refine z_ladd rfl ?_
    refine z_last rfl xup_s rfl (by omega) (by decide) ?_
    rw [xup_xup]
    refine z_iinc rfl rfl rfl ?_
    refine tt_goto rfl ?_
    refine ih (ax + 1) _ _ (by omega) (fun j hj => ?_) (fun j hj => ?_)
    · unfold zup
      by_cases e : j = ax
      · rw [if_pos e, e, h2 ax (by omega)]
        unfold wMo
        rw [if_pos (by omega)]
      · rw [if_neg e]; exact h1 j (by omega)
    · unfold zup
      rw [if_neg (by omega)]; exact h2 j (by omega)
set_option maxRecDepth 10000 in
theorem c_weighOne (HC : xCl h m P) (p q r : Nat) (hp : p < 14) (hq : q < 14) (hr : r < 14) (h5 : h 5 = some (huC F E CB six)) (mo : Nat → Int) (h8 : h 8 = some (mA mo)) : xCall xmX1_weighOne 4 0 0 [.ref 5, zI p, zI q, zI r] n h (fun res n' h' => res = none ∧ n' = n ∧ h' = xup (xup h 8 (mA (wMo P p q r mo))) 5 (huC F E CB (six + wPt P p q r))) := by
  refine xCall.of xgX1_weighOne rfl ?_
  have k1 := HC.1
  refine tt_op rfl rfl ?_
  refine tt_get rfl (by assumption) (by rfl) ?_
  refine tt_op rfl rfl ?_
  refine tt_op rfl rfl ?_
  refine tt_op rfl rfl ?_
  refine tt_op rfl rfl ?_
  refine tt_pV rfl rfl rfl k1 rfl (c_box HC p q r 0 hp hq hr (by omega)) ?_
  refine z_lneg rfl ?_
  refine tt_op rfl rfl ?_
  refine tt_op rfl rfl ?_
  refine tt_op rfl rfl ?_
  refine tt_get rfl (by assumption) (by rfl) ?_
  refine tt_op rfl rfl ?_
  refine z_ladd rfl ?_
  refine tt_put rfl (h5) rfl (by decide) (by rfl) (by rfl) rfl ?_
  refine tt_op rfl rfl ?_
  refine tt_op rfl rfl ?_
  have K := xCl_up (e := huC F E CB (six + wPt P p q r)) (show 5 ≤ 5 by omega) HC
  have := c_weigh1_loop (n := n) K p q r hp hq hr xup_s mo 3 0 mo none rfl (fun j hj => absurd hj (by omega)) (fun _ _ => rfl)
  rw [xup_same (show xup h 5 (huC F E CB (six + wPt P p q r)) 8 = some (mA mo) by rw [xup_n (by omega)]; exact h8)] at this
  refine xT.mono this (fun res n' h' hq => ?_)
  obtain ⟨rfl, rfl, rfl⟩ := hq
  exact ⟨rfl, rfl, xup_comm (by omega)⟩
/-- the weight of one face, then of all -/
def wgK (P : Nat → V3) (x : FD) : Nat → Nat → Int → (Nat → Int) → Int × (Nat → Int)
  | 0, _, s, mo => (s, mo)
  | j + 1, k, s, mo => wgK P x j (k + 1) (s + wPt P (x.2.2.2.2.2 0) (x.2.2.2.2.2 (k - 1)) (x.2.2.2.2.2 k)) (wMo P (x.2.2.2.2.2 0) (x.2.2.2.2.2 (k - 1)) (x.2.2.2.2.2 k) mo)
def wgR (P : Nat → V3) (f : Nat → FD) : Nat → Nat → Int → (Nat → Int) → Int × (Nat → Int)
  | 0, _, s, mo => (s, mo)
  | k + 1, i, s, mo => wgR P f k (i + 1) (wgK P (f i) ((f i).2.2.2.2.1 - 2) 2 s mo).1 (wgK P (f i) ((f i).2.2.2.2.1 - 2) 2 s mo).2
set_option maxRecDepth 10000 in
set_option maxHeartbeats 1000000 in
theorem c_weigh_row (HC : xCl h m P) (x : FD) (hx : fdV x) (o i : Nat) (Q : xQt) (ho9 : 9 ≤ o) (ho : h o = some (fdC x (o + 1))) (hr : h (o + 1) = some (fdA x)) :
    ∀ (j k : Nat) (s : Int) (mo : Nat → Int), 2 ≤ k → k + j = max x.2.2.2.2.1 2 → (xT xmX1_weigh (5, 0, 0, 0, 0) 95 [some (.ref 5), some (zI i), some (.ref o), some (zI (k + j : Nat))] [] n (xup (xup h 8 (mA (wgK P x j k s mo).2)) 5 (huC F E CB (wgK P x j k s mo).1)) Q) → xT xmX1_weigh (5, 0, 0, 0, 0) 51 [some (.ref 5), some (zI i), some (.ref o), some (zI k)] [] n (xup (xup h 8 (mA mo)) 5 (huC F E CB s)) Q := by
  obtain ⟨v1, v2, v3, v4, v5, v6⟩ := hx
  intro j
  induction j with
  | zero =>
    intro k s mo hk2 hk hfin
    have ho' : xup (xup h 8 (mA mo)) 5 (huC F E CB s) o = some (fdC x (o + 1)) := by rw [xup_n (by omega), xup_n (by omega)]; exact ho
    refine tt_op rfl rfl ?_
    refine tt_op rfl rfl ?_
    refine tt_get rfl (by assumption) (by rfl) ?_
    refine z_icmp rfl (by first | assumption | (unfold R3; omega)) (by first | assumption | (unfold R3; omega)) (fun c => ?_) (fun c => absurd (by simp only [zcd] <;> omega) c)
    exact hfin
  | succ j ih =>
    intro k s mo hk2 hk hfin
    have ho' : xup (xup h 8 (mA mo)) 5 (huC F E CB s) o = some (fdC x (o + 1)) := by rw [xup_n (by omega), xup_n (by omega)]; exact ho
    have hr' : xup (xup h 8 (mA mo)) 5 (huC F E CB s) (o + 1) = some (fdA x) := by rw [xup_n (by omega), xup_n (by omega)]; exact hr
    have K := xCl_up (e := huC F E CB s) (show 5 ≤ 5 by omega) (xCl_up (e := mA mo) (show 5 ≤ 8 by omega) HC)
    have h5' := (xup_s : xup (xup h 8 (mA mo)) 5 (huC F E CB s) 5 = _)
    have h8' : xup (xup h 8 (mA mo)) 5 (huC F E CB s) 8 = some (mA mo) := by rw [xup_n (by omega)]; exact xup_s
    refine tt_op rfl rfl ?_
    refine tt_op rfl rfl ?_
    refine tt_get rfl (by assumption) (by rfl) ?_
    refine z_icmp rfl (by first | assumption | (unfold R3; omega)) (by first | assumption | (unfold R3; omega)) (fun c => absurd c (by simp only [zcd] <;> omega)) (fun c => ?_)
    refine tt_op rfl rfl ?_
    refine tt_op rfl rfl ?_
    refine z_icmp rfl (by first | assumption | (unfold R3; omega)) (by first | assumption | (unfold R3; omega)) (fun c => absurd c (by simp only [zcd] <;> omega)) (fun c => ?_)
    refine tt_op rfl rfl ?_
    refine tt_op rfl rfl ?_
    refine tt_get rfl ho' (by rfl) ?_
    refine tt_op rfl rfl ?_
    refine z_iald (j := 0) rfl hr' rfl (by omega) (by decide) ?_
    refine tt_op rfl rfl ?_
    refine tt_get rfl ho' (by rfl) ?_
    refine tt_op rfl rfl ?_
    refine tt_op rfl rfl ?_
    refine z_isub rfl ?_
    refine z_iald (j := k - 1) rfl hr' (by omega) (by omega) (by decide) ?_
    refine tt_op rfl rfl ?_
    refine tt_get rfl (by assumption) (by rfl) ?_
    refine tt_op rfl rfl ?_
    refine z_iald rfl (by assumption) rfl (by omega) (by decide) ?_
    refine tt_callV (M' := xmX1_weighOne) rfl rfl rfl h5' rfl (c_weighOne K _ _ _ (v6 0 (by omega)) (v6 (k - 1) (by omega)) (v6 k (by omega)) h5' mo h8') ?_
    rintro res n1 h1 ⟨rfl, rfl, rfl⟩
    rw [xup_comm (show (5 : Nat) ≠ 8 by omega), xup_xup, xup_xup]
    refine z_iinc rfl rfl rfl ?_
    refine tt_goto rfl ?_
    refine ih (k + 1) _ _ (by omega) (by omega) ?_
    rw [show k + 1 + j = k + (j + 1) by omega]
    exact hfin
set_option maxRecDepth 10000 in
set_option maxHeartbeats 1000000 in
theorem c_weigh_loop (HC : xCl h m P) (H : xHf h ad f) (hF : F ≤ 24) : ∀ (k i : Nat) (s : Int) (mo : Nat → Int) (l2 l3 : Option Value), i + k = F → xT xmX1_weigh (5, 0, 0, 0, 0) 28 [some (.ref 5), some (zI i), l2, l3] [] n (xup (xup h 8 (mA mo)) 5 (huC F E CB s)) (fun r n' h' => r = none ∧ n' = n ∧ h' = xup (xup h 8 (mA (wgR P f k i s mo).2)) 5 (huC F E CB (wgR P f k i s mo).1)) := by
  obtain ⟨⟨rd, g6, grd⟩, gA, gI, gC, gV⟩ := H
  intro k
  induction k with
  | zero =>
    intro i s mo l2 l3 hi
    have h5' := (xup_s : xup (xup h 8 (mA mo)) 5 (huC F E CB s) 5 = _)
    refine tt_op rfl rfl ?_
    refine tt_op rfl rfl ?_
    refine tt_get rfl (by assumption) (by rfl) ?_
    refine z_icmp rfl (by first | assumption | (unfold R3; omega)) (by first | assumption | (unfold R3; omega)) (fun c => ?_) (fun c => absurd (by simp only [zcd] <;> omega) c)
    refine tt_return rfl rfl (Nat.le_of_ble_eq_true rfl) (Nat.le_of_ble_eq_true rfl) ?_
    exact ⟨rfl, rfl, rfl⟩
  | succ k ih =>
    intro i s mo l2 l3 hi
    have h5' := (xup_s : xup (xup h 8 (mA mo)) 5 (huC F E CB s) 5 = _)
    have hAi := gA i (by omega)
    obtain ⟨o1, r1⟩ := gC i (by omega)
    have hv := gV i (by omega)
    have hle := hv.2.2.2.2.1
    have h6' : xup (xup h 8 (mA mo)) 5 (huC F E CB s) 6 = some (zR 24 rd) := by rw [xup_n (by omega), xup_n (by omega)]; exact g6
    refine tt_op rfl rfl ?_
    refine tt_op rfl rfl ?_
    refine tt_get rfl (by assumption) (by rfl) ?_
    refine z_icmp rfl (by first | assumption | (unfold R3; omega)) (by first | assumption | (unfold R3; omega)) (fun c => absurd c (by simp only [zcd] <;> omega)) (fun c => ?_)
    refine tt_op rfl rfl ?_
    refine tt_op rfl rfl ?_
    refine z_icmp rfl (by first | assumption | (unfold R3; omega)) (by first | assumption | (unfold R3; omega)) (fun c => absurd c (by simp only [zcd] <;> omega)) (fun c => ?_)
    refine tt_op rfl rfl ?_
    refine tt_get rfl (by assumption) (by rfl) ?_
    refine tt_op rfl rfl ?_
    refine z_aald rfl h6' rfl (by omega) (by decide) (grd i (by omega)) ?_
    refine tt_op rfl rfl ?_
    refine tt_op rfl rfl ?_
    refine tt_op rfl rfl ?_
    refine c_weigh_row HC (f i) hv (ad i) i _ (by omega) o1 r1 ((f i).2.2.2.2.1 - 2) 2 s mo (by omega) (by omega) ?_
    refine z_iinc rfl rfl rfl ?_
    refine tt_goto rfl ?_
    exact ih (i + 1) _ _ _ _ (by omega)
set_option maxRecDepth 10000 in
theorem c_weigh (h5 : h 5 = some (huC F E CB six)) (HC : xCl h m P) (H : xHf h ad f) (hF : F ≤ 24) (mo0 : Nat → Int) (h8 : h 8 = some (mA mo0)) : xCall xmX1_weigh 5 0 0 [.ref 5] n h (fun r n' h' => r = none ∧ n' = n ∧ ∃ mo : Nat → Int, (∀ j, j < 3 → mo j = 0) ∧ h' = xup (xup h 8 (mA (wgR P f F 0 0 mo).2)) 5 (huC F E CB (wgR P f F 0 0 mo).1)) := by
  refine xCall.of xgX1_weigh rfl ?_
  refine tt_op rfl rfl ?_
  refine tt_op rfl rfl ?_
  refine tt_put rfl (h5) rfl (by decide) (by rfl) (by rfl) rfl ?_
  have g8 : xup h 5 (huC F E CB 0) 8 = some (mA mo0) := by rw [xup_n (by omega)]; exact h8
  refine tt_op rfl rfl ?_
  refine tt_get rfl xup_s (by rfl) ?_
  refine tt_op rfl rfl ?_
  refine tt_op rfl rfl ?_
  refine z_last (j := 0) rfl g8 rfl (by omega) (by decide) ?_
  refine tt_op rfl rfl ?_
  refine tt_get rfl (show xup (xup h 5 (huC F E CB 0)) 8 _ 5 = some (huC F E CB 0) by rw [xup_n (by omega)]; exact xup_s) (by rfl) ?_
  refine tt_op rfl rfl ?_
  refine tt_op rfl rfl ?_
  refine z_last (j := 1) rfl xup_s rfl (by omega) (by decide) ?_
  rw [xup_xup]
  refine tt_op rfl rfl ?_
  refine tt_get rfl (show xup (xup h 5 (huC F E CB 0)) 8 _ 5 = some (huC F E CB 0) by rw [xup_n (by omega)]; exact xup_s) (by rfl) ?_
  refine tt_op rfl rfl ?_
  refine tt_op rfl rfl ?_
  refine z_last (j := 2) rfl xup_s rfl (by omega) (by decide) ?_
  rw [xup_xup, xup_comm (show (5 : Nat) ≠ 8 by omega)]
  refine tt_op rfl rfl ?_
  refine tt_op rfl rfl ?_
  refine xT.mono (c_weigh_loop (E := E) (CB := CB) HC H hF F 0 0 (zup (zup (zup mo0 0 0) 1 0) 2 0) none none (by omega)) (fun r n' h' hq => ?_)
  obtain ⟨rfl, rfl, rfl⟩ := hq
  refine ⟨rfl, rfl, _, fun j hj => ?_, rfl⟩
  unfold zup
  split
  · rfl
  · split
    · rfl
    · split
      · rfl
      · omega
end WG
