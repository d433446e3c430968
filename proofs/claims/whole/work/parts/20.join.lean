/-! Corners and edges; the weight -/
theorem xHf_up {h : xHp} {ad : Nat → Nat} {f : Nat → FD} {q : Nat} {e : xE} (hq : q < 9 ∧ q ≠ 6 ∨ 57 ≤ q) (H : xHf h ad f) : xHf (xup h q e) ad f := by
  obtain ⟨⟨rd, g6, grd⟩, gA, gI, gC, gV⟩ := H
  refine ⟨⟨rd, by rw [xup_n (by omega)]; exact g6, grd⟩, gA, gI, fun i hi => ?_, gV⟩
  have := gA i hi
  rw [xup_n (q := q) (j := ad i) (by omega), xup_n (q := q) (j := ad i + 1) (by omega)]
  exact gC i hi
abbrev bA (b : Nat → Nat) : xE := zA 14 fun j => (b j : Int)
def nxk (x : FD) (k : Nat) : Nat := if k + 1 < x.2.2.2.2.1 then k + 1 else 0
def bsK (x : FD) : Nat → Nat → (Nat → Nat) → Nat → Nat
  | 0, _, b => b
  | j + 1, k, b => bsK x j (k + 1) (nup b (x.2.2.2.2.2 k) (b (x.2.2.2.2.2 k) ||| 2 ^ x.2.2.2.2.2 (nxk x k)))
def jnR (f : Nat → FD) : Nat → Nat → Nat → Nat → (Nat → Nat) → Nat × Nat × (Nat → Nat)
  | 0, _, cb, sd, b => (cb, sd, b)
  | k + 1, i, cb, sd, b => jnR f k (i + 1) (cb ||| (f i).2.2.2.1) (sd + (f i).2.2.2.2.1) (bsK (f i) (f i).2.2.2.2.1 0 b)
theorem bsK_ag (x : FD) (hx : fdV x) : ∀ (j k : Nat) (b b' : Nat → Nat), k + j ≤ 14 → (∀ i, i < 14 → b i = b' i) → ∀ i, i < 14 → bsK x j k b i = bsK x j k b' i
  | 0, k, b, b', hk, hb, i, hi => hb i hi
  | j + 1, k, b, b', hk, hb, i, hi => by
    refine bsK_ag x hx j (k + 1) _ _ (by omega) (fun i' hi' => ?_) i hi
    unfold nup
    rw [hb _ (hx.2.2.2.2.2 k (by omega))]
    split
    · rfl
    · exact hb i' hi'
theorem jnR_ag (f : Nat → FD) : ∀ (k i cb sd : Nat) (b b' : Nat → Nat), (∀ j, j < i + k → fdV (f j)) → (∀ j, j < 14 → b j = b' j) → (jnR f k i cb sd b).1 = (jnR f k i cb sd b').1 ∧ (jnR f k i cb sd b).2.1 = (jnR f k i cb sd b').2.1 ∧ ∀ j, j < 14 → (jnR f k i cb sd b).2.2 j = (jnR f k i cb sd b').2.2 j
  | 0, i, cb, sd, b, b', hv, hb => ⟨rfl, rfl, hb⟩
  | k + 1, i, cb, sd, b, b', hv, hb => by
    refine jnR_ag f k (i + 1) _ _ _ _ (fun j hj => hv j (by omega)) (bsK_ag _ (hv i (by omega)) _ 0 _ _ ?_ hb)
    have := (hv i (by omega)).2.2.2.2.1
    omega
section JN
variable {h : xHp} {m : Nat} {P : Nat → V3} {n : Nat} {ad : Nat → Nat} {f : Nat → FD} {F E CB : Nat} {six : Int}
set_option maxRecDepth 10000 in
theorem c_join_zero (h5 : h 5 = some (huC F E CB six)) (Q : xQt) (l2 l3 l4 l5 l6 : Option Value) (hQ : ∀ b : Nat → Nat, (∀ j, j < 14 → b j = 0) → xT xmX1_join (2, 0, 0, 0, 0) 21 [some (.ref 5), some (zI (14 : Nat)), l2, l3, l4, l5, l6] [] n (xup h 7 (bA b)) Q) : ∀ (k i : Nat) (b : Nat → Nat), i + k = 14 → (∀ j, j < i → b j = 0) → xT xmX1_join (2, 0, 0, 0, 0) 2 [some (.ref 5), some (zI i), l2, l3, l4, l5, l6] [] n (xup h 7 (bA b)) Q := by
  intro k
  induction k with
  | zero =>
    intro i b hi hb
    have : i = 14 := by omega
    subst this
    refine tt_op rfl rfl ?_
    refine tt_op rfl rfl ?_
    refine z_icmp rfl (by first | assumption | (unfold R3; omega)) (by first | assumption | (unfold R3; omega)) (fun c => ?_) (fun c => absurd (by simp only [zcd] <;> omega) c)
    exact hQ b hb
  | succ k ih =>
    intro i b hi hb
    have h5' : xup h 7 (bA b) 5 = some (huC F E CB six) := by rw [xup_n (by omega)]; exact h5
    refine tt_op rfl rfl ?_
    refine tt_op rfl rfl ?_
    refine z_icmp rfl (by first | assumption | (unfold R3; omega)) (by first | assumption | (unfold R3; omega)) (fun c => absurd c (by simp only [zcd] <;> omega)) (fun c => ?_)
    refine tt_op rfl rfl ?_
    refine tt_get rfl (by assumption) (by rfl) ?_
    refine tt_op rfl rfl ?_
    refine tt_op rfl rfl ?_
    refine z_iast rfl xup_s rfl (by omega) (by decide) ?_
    rw [xup_xup, show (zup (fun j => (b j : Int)) i 0) = fun j => ((nup b i 0 j : Nat) : Int) from zup_nup b i 0]
    refine z_iinc rfl rfl rfl ?_
    refine tt_goto rfl ?_
    exact ih (i + 1) (nup b i 0) (by omega) (fun j hj => by
      unfold nup
      split
      · rfl
      · exact hb j (by omega))
set_option maxRecDepth 10000 in
set_option maxHeartbeats 1000000 in
theorem c_join_row (x : FD) (hx : fdV x) (o i sd : Nat) (Q : xQt) (ho9 : 9 ≤ o) (ho : h o = some (fdC x (o + 1))) (hr : h (o + 1) = some (fdA x)) (h5 : h 5 = some (huC F E CB six))
    (hQ : ∀ (l5 l6 : Option Value) (k : Nat), xT xmX1_join (2, 0, 0, 0, 0) 162 [some (.ref 5), some (zI sd), some (zI i), some (.ref o), some (zI k), l5, l6] [] n h Q → True) :
    ∀ (j k : Nat) (b : Nat → Nat) (l5 l6 : Option Value), k + j = x.2.2.2.2.1 → (∀ l5 l6, xT xmX1_join (2, 0, 0, 0, 0) 162 [some (.ref 5), some (zI sd), some (zI i), some (.ref o), some (zI x.2.2.2.2.1), l5, l6] [] n (xup h 7 (bA (bsK x j k b))) Q) → xT xmX1_join (2, 0, 0, 0, 0) 74 [some (.ref 5), some (zI sd), some (zI i), some (.ref o), some (zI k), l5, l6] [] n (xup h 7 (bA b)) Q := by
  obtain ⟨v1, v2, v3, v4, v5, v6⟩ := hx
  intro j
  induction j with
  | zero =>
    intro k b l5 l6 hk hfin
    have ho' : xup h 7 (bA b) o = some (fdC x (o + 1)) := by rw [xup_n (by omega)]; exact ho
    have hk' : k = x.2.2.2.2.1 := by omega
    subst hk'
    refine tt_op rfl rfl ?_
    refine tt_op rfl rfl ?_
    refine tt_get rfl (by assumption) (by rfl) ?_
    refine z_icmp rfl (by first | assumption | (unfold R3; omega)) (by first | assumption | (unfold R3; omega)) (fun c => ?_) (fun c => absurd (by simp only [zcd] <;> omega) c)
    exact hfin l5 l6
  | succ j ih =>
    intro k b l5 l6 hk hfin
    have ho' : xup h 7 (bA b) o = some (fdC x (o + 1)) := by rw [xup_n (by omega)]; exact ho
    have hr' : xup h 7 (bA b) (o + 1) = some (fdA x) := by rw [xup_n (by omega)]; exact hr
    have h5' : xup h 7 (bA b) 5 = some (huC F E CB six) := by rw [xup_n (by omega)]; exact h5
    have hrk := v6 k (by omega)
    have hnk : nxk x k < 14 := by unfold nxk; split <;> omega
    have hrn := v6 (nxk x k) hnk
    refine tt_op rfl rfl ?_
    refine tt_op rfl rfl ?_
    refine tt_get rfl (by assumption) (by rfl) ?_
    refine z_icmp rfl (by first | assumption | (unfold R3; omega)) (by first | assumption | (unfold R3; omega)) (fun c => absurd c (by simp only [zcd] <;> omega)) (fun c => ?_)
    refine tt_op rfl rfl ?_
    refine tt_op rfl rfl ?_
    refine z_icmp rfl (by first | assumption | (unfold R3; omega)) (by first | assumption | (unfold R3; omega)) (fun c => absurd c (by simp only [zcd] <;> omega)) (fun c => ?_)
    refine tt_op rfl rfl ?_
    refine tt_get rfl (by assumption) (by rfl) ?_
    refine tt_op rfl rfl ?_
    refine z_iald rfl (by assumption) rfl (by omega) (by decide) ?_
    refine tt_op rfl rfl ?_
    refine tt_op rfl rfl ?_
    refine tt_get rfl (by assumption) (by rfl) ?_
    refine tt_op rfl rfl ?_
    refine tt_op rfl rfl ?_
    refine z_iadd rfl ?_
    refine tt_op rfl rfl ?_
    refine tt_get rfl (by assumption) (by rfl) ?_
    have tail : xT xmX1_join (2, 0, 0, 0, 0) 131 [some (.ref 5), some (zI sd), some (zI i), some (.ref o), some (zI k), some (zI (x.2.2.2.2.2 k)), l6] [zI (nxk x k : Nat), .ref (o + 1)] n (xup h 7 (bA b)) Q := by
      refine z_iald rfl hr' rfl hnk (by decide) ?_
      refine tt_op rfl rfl ?_
      refine tt_op rfl rfl ?_
      refine tt_pS rfl rfl rfl rfl (c_isPoint _ hrk _ _) ?_
      refine z_if rfl (by first | assumption | (unfold R3; omega)) (fun c => absurd c (by simp only [zcd] <;> omega)) (fun c => ?_)
      refine tt_op rfl rfl ?_
      refine tt_get rfl h5' (by rfl) ?_
      refine tt_op rfl rfl ?_
      refine tt_op rfl rfl ?_
      refine z_iald rfl xup_s rfl hrk (by decide) ?_
      refine tt_op rfl rfl ?_
      refine tt_op rfl rfl ?_
      refine z_shl1 rfl (by omega) ?_
      refine z_ior rfl ?_
      refine z_iast rfl xup_s rfl hrk (by decide) ?_
      rw [xup_xup, zup_nup]
      refine z_iinc rfl rfl rfl ?_
      refine tt_goto rfl ?_
      exact ih (k + 1) _ _ _ (by omega) hfin
    refine z_icmp rfl (by first | assumption | (unfold R3; omega)) (by first | assumption | (unfold R3; omega)) (fun c1 => ?_) (fun c1 => ?_)
    · simp only [zcd] at c1
      have e : nxk x k = 0 := by unfold nxk; rw [if_neg (by omega)]
      rw [e] at tail
      refine tt_op rfl rfl ?_
      exact tail
    · simp only [zcd] at c1
      have e : nxk x k = k + 1 := by unfold nxk; rw [if_pos (by omega)]
      rw [e] at tail
      refine tt_op rfl rfl ?_
      refine tt_op rfl rfl ?_
      refine z_iadd rfl ?_
      refine tt_op rfl rfl ?_
      refine z_icmp rfl (by first | assumption | (unfold R3; omega)) (by first | assumption | (unfold R3; omega)) (fun c => absurd c (by simp only [zcd] <;> omega)) (fun c => ?_)
      refine tt_op rfl rfl ?_
      refine tt_op rfl rfl ?_
      refine z_iadd rfl ?_
      refine tt_goto rfl ?_
      exact tail
set_option maxRecDepth 10000 in
set_option maxHeartbeats 1000000 in
theorem c_join_loop (H : xHf h ad f) (hF : F ≤ 24) : ∀ (k i CB' sd : Nat) (b : Nat → Nat) (l3 l4 l5 l6 : Option Value), i + k = F → CB' < 16384 → sd ≤ 14 * i → xT xmX1_join (2, 0, 0, 0, 0) 30 [some (.ref 5), some (zI sd), some (zI i), l3, l4, l5, l6] [] n (xup (xup h 7 (bA b)) 5 (huC F E CB' six)) (fun r n' h' => r = none ∧ n' = n ∧ h' = xup (xup h 7 (bA (jnR f k i CB' sd b).2.2)) 5 (huC F ((jnR f k i CB' sd b).2.1 / 2) (jnR f k i CB' sd b).1 six)) := by
  have H' := H
  obtain ⟨⟨rd, g6, grd⟩, gA, gI, gC, gV⟩ := H
  intro k
  induction k with
  | zero =>
    intro i CB' sd b l3 l4 l5 l6 hi hcb hsd
    have h5' := (xup_s : xup (xup h 7 (bA b)) 5 (huC F E CB' six) 5 = _)
    refine tt_op rfl rfl ?_
    refine tt_op rfl rfl ?_
    refine tt_get rfl (by assumption) (by rfl) ?_
    refine z_icmp rfl (by first | assumption | (unfold R3; omega)) (by first | assumption | (unfold R3; omega)) (fun c => ?_) (fun c => absurd (by simp only [zcd] <;> omega) c)
    refine tt_op rfl rfl ?_
    refine tt_op rfl rfl ?_
    refine tt_op rfl rfl ?_
    refine z_idiv (x := (sd : Int)) (y := 2) rfl (by decide) (by unfold R3; omega) (by omega) ⟨by decide, by decide⟩ ?_
    refine tt_put rfl (h5') rfl (by decide) (by rfl) (by rfl) rfl ?_
    refine tt_return rfl rfl (Nat.le_of_ble_eq_true rfl) (Nat.le_of_ble_eq_true rfl) ?_
    refine ⟨rfl, rfl, ?_⟩
    rw [xup_xup, show ((sd : Int)).tdiv 2 = ((sd / 2 : Nat) : Int) from rfl]
    rfl
  | succ k ih =>
    intro i CB' sd b l3 l4 l5 l6 hi hcb hsd
    have h5' := (xup_s : xup (xup h 7 (bA b)) 5 (huC F E CB' six) 5 = _)
    have hAi := gA i (by omega)
    obtain ⟨o1, r1⟩ := gC i (by omega)
    have hv := gV i (by omega)
    have h6' : xup (xup h 7 (bA b)) 5 (huC F E CB' six) 6 = some (zR 24 rd) := by rw [xup_n (by omega), xup_n (by omega)]; exact g6
    have o1' : xup (xup h 7 (bA b)) 5 (huC F E CB' six) (ad i) = some (fdC (f i) (ad i + 1)) := by rw [xup_n (by omega), xup_n (by omega)]; exact o1
    refine tt_op rfl rfl ?_
    refine tt_op rfl rfl ?_
    refine tt_get rfl (by assumption) (by rfl) ?_
    refine z_icmp rfl (by first | assumption | (unfold R3; omega)) (by first | assumption | (unfold R3; omega)) (fun c => absurd c (by simp only [zcd] <;> omega)) (fun c => ?_)
    refine tt_op rfl rfl ?_
    refine tt_op rfl rfl ?_
    refine z_icmp rfl (by first | assumption | (unfold R3; omega)) (by first | assumption | (unfold R3; omega)) (fun c => absurd c (by simp only [zcd] <;> omega)) (fun c => ?_)
    refine tt_op rfl rfl ?_
    refine tt_get rfl (by assumption) (by rfl) ?_
    refine tt_op rfl rfl ?_
    refine z_aald rfl h6' rfl (by omega) (by decide) (grd i (by omega)) ?_
    refine tt_op rfl rfl ?_
    refine tt_op rfl rfl ?_
    refine tt_op rfl rfl ?_
    refine tt_get rfl (by assumption) (by rfl) ?_
    refine tt_op rfl rfl ?_
    refine tt_get rfl (by assumption) (by rfl) ?_
    refine z_ior rfl ?_
    refine tt_put rfl (h5') rfl (by decide) (by rfl) (by rfl) rfl ?_
    rw [xup_xup]
    have o2 : xup (xup h 7 (bA b)) 5 (huC F E (CB' ||| (f i).2.2.2.1) six) (ad i) = some (fdC (f i) (ad i + 1)) := by rw [xup_n (by omega), xup_n (by omega)]; exact o1
    refine tt_op rfl rfl ?_
    refine tt_op rfl rfl ?_
    refine tt_get rfl (by assumption) (by rfl) ?_
    refine z_iadd rfl ?_
    refine tt_op rfl rfl ?_
    refine tt_op rfl rfl ?_
    refine tt_op rfl rfl ?_
    rw [xup_comm (show (7 : Nat) ≠ 5 by omega)]
    refine c_join_row (h := xup h 5 (huC F E (CB' ||| (f i).2.2.2.1) six)) (f i) hv (ad i) i (sd + (f i).2.2.2.2.1) _ (by omega) (by rw [xup_n (by omega)]; exact o1) (by rw [xup_n (by omega)]; exact r1) xup_s (fun _ _ _ _ => trivial) (f i).2.2.2.2.1 0 b _ _ (by omega) (fun l5 l6 => ?_)
    rw [xup_comm (show (5 : Nat) ≠ 7 by omega)]
    refine z_iinc rfl rfl rfl ?_
    refine tt_goto rfl ?_
    have hle := hv.2.2.2.2.1
    exact ih (i + 1) _ _ _ _ _ _ _ (by omega) (bits_or hcb hv.2.2.2.1) (by omega)
set_option maxRecDepth 10000 in
theorem c_join (h5 : h 5 = some (huC F E CB six)) (H : xHf h ad f) (hF : F ≤ 24) (b0 : Nat → Nat) (h7 : h 7 = some (bA b0)) : xCall xmX1_join 2 0 0 [.ref 5] n h (fun r n' h' => r = none ∧ n' = n ∧ ∃ b, (∀ j, j < 14 → b j = (jnR f F 0 0 0 (fun _ => 0)).2.2 j) ∧ h' = xup (xup h 7 (bA b)) 5 (huC F ((jnR f F 0 0 0 (fun _ => 0)).2.1 / 2) (jnR f F 0 0 0 (fun _ => 0)).1 six)) := by
  refine xCall.of xgX1_join rfl ?_
  refine tt_op rfl rfl ?_
  refine tt_op rfl rfl ?_
  rw [← xup_same h7]
  refine c_join_zero h5 _ none none none none none (fun b hb => ?_) 14 0 b0 rfl (fun j hj => absurd hj (by omega))
  refine tt_op rfl rfl ?_
  refine tt_op rfl rfl ?_
  refine tt_put rfl (by rw [xup_n (by omega)]; exact h5) rfl (by decide) (by rfl) (by rfl) rfl ?_
  refine tt_op rfl rfl ?_
  refine tt_op rfl rfl ?_
  refine tt_op rfl rfl ?_
  refine tt_op rfl rfl ?_
  obtain ⟨e1, e2, e3⟩ := jnR_ag f F 0 0 0 b (fun _ => 0) (fun j hj => H.2.2.2.2 j (by omega)) hb
  refine xT.mono (c_join_loop (E := E) (six := six) H hF F 0 0 0 b none none none none (by omega) (by decide) (by omega)) (fun r n' h' hq => ?_)
  obtain ⟨rfl, rfl, rfl⟩ := hq
  refine ⟨rfl, rfl, _, e3, ?_⟩
  rw [e1, e2, xup_same h7]
end JN
