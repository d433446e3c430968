/-! The building, by its mirror -/
/-- alike, as far as the row goes -/
def feq (x y : FD) : Prop := x.1 = y.1 ∧ x.2.1 = y.2.1 ∧ x.2.2.1 = y.2.2.1 ∧ x.2.2.2.1 = y.2.2.2.1 ∧ x.2.2.2.2.1 = y.2.2.2.2.1 ∧ ∀ k, k < x.2.2.2.2.1 → x.2.2.2.2.2 k = y.2.2.2.2.2 k
theorem feq.rf (x : FD) : feq x x := ⟨rfl, rfl, rfl, rfl, rfl, fun _ _ => rfl⟩
theorem feq.tr {x y z : FD} (h : feq x y) (h' : feq y z) : feq x z := by
  obtain ⟨a1, a2, a3, a4, a5, a6⟩ := h
  obtain ⟨b1, b2, b3, b4, b5, b6⟩ := h'
  exact ⟨a1.trans b1, a2.trans b2, a3.trans b3, a4.trans b4, a5.trans b5, fun k hk => (a6 k hk).trans (b6 k (by rw [← a5]; exact hk))⟩
theorem ldR_ag {ra rb ra' rb' : Nat → Int} {la lb : Nat} (ha : ∀ k, k < la → ra k = ra' k) (hb : ∀ k, k < lb → rb k = rb' k) : ∀ (f k : Nat), ldR ra rb la lb f k = ldR ra' rb' la lb f k
  | 0, k => rfl
  | f + 1, k => by
    unfold ldR
    by_cases h : la ≤ k ∨ lb ≤ k
    · rw [if_pos h, if_pos h]
    · rw [if_neg h, if_neg h, ha k (by omega), hb k (by omega), ldR_ag ha hb f (k + 1)]
theorem fld_ag {x y x' y' : FD} (h1 : feq x x') (h2 : feq y y') : fld x y = fld x' y' := by
  obtain ⟨-, -, -, -, a5, a6⟩ := h1
  obtain ⟨-, -, -, -, b5, b6⟩ := h2
  unfold fld
  rw [← a5, ← b5]
  exact ldR_ag (fun k hk => by rw [a6 k hk]) (fun k hk => by rw [b6 k hk]) 14 0
theorem stR_ag : ∀ (k : Nat) (f g : Nat → FD), (∀ i, i ≤ k → feq (f i) (g i)) → ∀ i, i ≤ k → feq (stR f k i) (stR g k i)
  | 0, f, g, h, i, hi => h i hi
  | k + 1, f, g, h, i, hi => by
    unfold stR
    rw [← fld_ag (h (k + 1) (by omega)) (h k (by omega))]
    split
    · rcases Nat.lt_or_ge k i with z | z
      · have hi' : i = k + 1 := by omega
        subst hi'
        have out : ∀ (f : Nat → FD), stR (sw2 f k) k (k + 1) = f k := by
          intro f
          have gen : ∀ (j : Nat) (f : Nat → FD) (i : Nat), j < i → stR f j i = f i := by
            intro j
            induction j with
            | zero => intro f i hi; rfl
            | succ j ih =>
              intro f i hi
              unfold stR
              split
              · rw [ih _ i (by omega)]
                unfold sw2
                rw [if_neg (by omega), if_neg (by omega)]
              · rfl
          rw [gen k _ (k + 1) (by omega)]
          unfold sw2
          rw [if_neg (by omega), if_pos rfl]
        rw [out, out]
        exact h k (by omega)
      · refine stR_ag k _ _ (fun j hj => ?_) i z
        unfold sw2
        by_cases e : j = k
        · rw [if_pos e, if_pos e]; exact h (k + 1) (by omega)
        · rw [if_neg e, if_neg e, if_neg (by omega), if_neg (by omega)]; exact h j (by omega)
    · exact h i hi
theorem knR_ag {f g : Nat → FD} {w : Nat} : ∀ (k i : Nat), (∀ j, j < i + k → feq (f j) (g j)) → knR f w k i = knR g w k i
  | 0, i, h => rfl
  | k + 1, i, h => by
    unfold knR
    rw [(h i (by omega)).2.2.1, knR_ag k (i + 1) (fun j hj => h j (by omega))]
theorem nfT_ag (P : Nat → V3) (d : V3) (S : Nat) (row row' : Nat → Nat) : (nfT P d S row).2 = (nfT P d S row').2 ∧ ∀ j, j < (nfT P d S row).2.2 → (nfT P d S row).1 j = (nfT P d S row').1 j := by
  have h1 := (trN_row P d S (rmF P d S) 14 0 (rmF P d S) row row' 0 (fun j hj => absurd hj (by omega))).1
  unfold nfT
  generalize trN P d S (rmF P d S) 14 0 (rmF P d S) row 0 = A at h1 ⊢
  generalize trN P d S (rmF P d S) 14 0 (rmF P d S) row' 0 = A' at h1 ⊢
  rw [h1]
  exact trN_row P d S (tz A'.2.1) 14 0 (tz A'.2.1) A.1 A'.1 0 (fun j hj => absurd hj (by omega))
theorem feq_mk {d : V3} {lv : Int} {S me le me' le' : Nat} {row row' : Nat → Nat} (h1 : me = me') (h2 : le = le') (h3 : ∀ k, k < le → row k = row' k) : feq (d, lv, S, me, le, row) (d, lv, S, me', le', row') := ⟨rfl, rfl, rfl, h1, h2, h3⟩
theorem nfD_mk {d : V3} {lv : Int} {S : Nat} {A A' : (Nat → Nat) × Nat × Nat} (h1 : A.2 = A'.2) (h3 : ∀ k, k < A.2.2 → A.1 k = A'.1 k) : feq (d, lv, S, A.2.1, A.2.2, A.1) (d, lv, S, A'.2.1, A'.2.2, A'.1) := feq_mk (by rw [h1]) (by rw [h1]) h3
theorem nfD_ag (P : Nat → V3) (m p q r : Nat) (row row' : Nat → Nat) : feq (nfD P m p q r row) (nfD P m p q r row') := nfD_mk (nfT_ag P (fcD P m p q r) (fcS P m p q r).2 row row').1 (nfT_ag P (fcD P m p q r) (fcS P m p q r).2 row row').2
/-- the mirror of one step -/
def tfC (P : Nat → V3) (m p q r : Nat) (s : Nat × (Nat → FD)) : Nat × (Nat → FD) := if 24 ≤ s.1 ∨ knR s.2 (2 ^ p ||| 2 ^ q ||| 2 ^ r) s.1 0 = true then s else if gcd3 (nrm P p q r) ≠ 0 ∧ ((fcS P m p q r).1 = 1 ∨ (fcS P m p q r).1 = 2) then (s.1 + 1, stR (nup s.2 s.1 (nfD P m p q r (fun _ => 0))) s.1) else s
theorem tf_ag {P : Nat → V3} {m p q r F : Nat} {f g : Nat → FD} (h : ∀ i, i < F → feq (f i) (g i)) : (tfS P m p q r F f).1 = (tfC P m p q r (F, g)).1 ∧ ∀ i, i < (tfS P m p q r F f).1 → feq ((tfS P m p q r F f).2 i) ((tfC P m p q r (F, g)).2 i) := by
  unfold tfS tfC
  dsimp only
  rw [← knR_ag (f := f) (g := g) F 0 (fun j hj => h j (by omega))]
  split
  · exact ⟨rfl, h⟩
  · split
    · refine ⟨rfl, fun i hi => stR_ag F _ _ (fun j hj => ?_) i (by have : i < F + 1 := hi; omega)⟩
      unfold nup
      split
      · exact nfD_ag P m p q r _ _
      · exact h j (by omega)
    · exact ⟨rfl, h⟩
theorem tfC_le {P : Nat → V3} {m p q r : Nat} {s : Nat × (Nat → FD)} (h : s.1 ≤ 24) : (tfC P m p q r s).1 ≤ 24 := by
  unfold tfC
  split
  · exact h
  · split
    · show s.1 + 1 ≤ 24; omega
    · exact h
def pR (P : Nat → V3) (m q r : Nat) : Nat → Nat → Nat × (Nat → FD) → Nat × (Nat → FD)
  | 0, _, s => s
  | k + 1, p, s => pR P m q r k (p + 1) (tfC P m p q r s)
def qR (P : Nat → V3) (m r : Nat) : Nat → Nat → Nat × (Nat → FD) → Nat × (Nat → FD)
  | 0, _, s => s
  | k + 1, q, s => qR P m r k (q + 1) (pR P m q r q 0 s)
def rR (P : Nat → V3) (m : Nat) : Nat → Nat → Nat × (Nat → FD) → Nat × (Nat → FD)
  | 0, _, s => s
  | k + 1, r, s => rR P m k (r + 1) (qR P m r (r - 1) 1 s)
/-- all faces of the points -/
def blF (P : Nat → V3) (m : Nat) : Nat × (Nat → FD) := rR P m (m - 2) 2 (0, fun _ => ((0, 0, 0), 0, 0, 0, 0, fun _ => 0))
def bI (E CB : Nat) (six : Int) (h0 h : xHp) (s : Nat × (Nat → FD)) : Prop := h 5 = some (huC s.1 E CB six) ∧ s.1 ≤ 24 ∧ (∃ ad f, xHf h ad f ∧ ∀ i, i < s.1 → feq (f i) (s.2 i)) ∧ ∀ j, (j < 5 ∨ j = 7 ∨ j = 8 ∨ 57 ≤ j) → h j = h0 j
section BL
variable {h0 : xHp} {m : Nat} {P : Nat → V3} {n : Nat} {E CB : Nat} {six : Int}
theorem bI_cl {h : xHp} {s : Nat × (Nat → FD)} (HC : xCl h0 m P) (B : bI E CB six h0 h s) : xCl h m P := by
  obtain ⟨c1, c2, c3, c4, c5⟩ := HC
  have e := B.2.2.2
  exact ⟨by rw [e 1 (by omega)]; exact c1, by rw [e 2 (by omega)]; exact c2, by rw [e 3 (by omega)]; exact c3, by rw [e 4 (by omega)]; exact c4, c5⟩
set_option maxRecDepth 10000 in
theorem c_build_p (HC : xCl h0 m P) (q r : Nat) (hq : q < m) (hr : r < m) (Q : xQt) : ∀ (k p : Nat) (h : xHp) (s : Nat × (Nat → FD)), p + k = q → bI E CB six h0 h s → (∀ h', bI E CB six h0 h' (pR P m q r k p s) → xT xmX1_build (7, 0, 0, 0, 0) 45 [some (.ref 5), some (zI r), some (zI q), some (zI q)] [] n h' Q) → xT xmX1_build (7, 0, 0, 0, 0) 27 [some (.ref 5), some (zI r), some (zI q), some (zI p)] [] n h Q := by
  have hm := HC.2.2.2.2.1
  intro k
  induction k with
  | zero =>
    intro p h s hk hB hfin
    have : p = q := by omega
    subst this
    refine tt_op rfl rfl ?_
    refine tt_op rfl rfl ?_
    refine z_icmp rfl (by first | assumption | (unfold R3; omega)) (by first | assumption | (unfold R3; omega)) (fun c => ?_) (fun c => absurd (by simp only [zcd] <;> omega) c)
    exact hfin h hB
  | succ k ih =>
    intro p h s hk hB hfin
    have K := bI_cl HC hB
    obtain ⟨h5, hs, ⟨ad, f, H, hfe⟩, ho⟩ := hB
    refine tt_op rfl rfl ?_
    refine tt_op rfl rfl ?_
    refine z_icmp rfl (by first | assumption | (unfold R3; omega)) (by first | assumption | (unfold R3; omega)) (fun c => absurd c (by simp only [zcd] <;> omega)) (fun c => ?_)
    refine tt_op rfl rfl ?_
    refine tt_op rfl rfl ?_
    refine tt_op rfl rfl ?_
    refine tt_op rfl rfl ?_
    refine tt_callV (M' := xmX1_tryFace) rfl rfl rfl h5 rfl (c_tryFace h5 K H hs p q r (by omega) hq hr) ?_
    rintro res n1 h1 ⟨rfl, rfl, g5, ⟨ad', f', H', hf'⟩, ho'⟩
    obtain ⟨t1, t2⟩ := tf_ag (P := P) (m := m) (p := p) (q := q) (r := r) hfe
    refine z_iinc rfl rfl rfl ?_
    refine tt_goto rfl ?_
    refine ih (p + 1) h1 (tfC P m p q r s) (by omega) ⟨by rw [g5, t1], tfC_le hs, ⟨ad', f', H', fun i hi => ?_⟩, fun j hj => (ho' j hj).trans (ho j hj)⟩ hfin
    have hi' : i < (tfS P m p q r s.1 f).1 := by rw [t1]; exact hi
    rw [hf' i hi']
    exact t2 i hi'
set_option maxRecDepth 10000 in
theorem c_build_q (HC : xCl h0 m P) (r : Nat) (hr : r < m) (Q : xQt) : ∀ (k q : Nat) (h : xHp) (s : Nat × (Nat → FD)) (l3 : Option Value), q + k = r → bI E CB six h0 h s → (∀ h' l3, bI E CB six h0 h' (qR P m r k q s) → xT xmX1_build (7, 0, 0, 0, 0) 51 [some (.ref 5), some (zI r), some (zI r), l3] [] n h' Q) → xT xmX1_build (7, 0, 0, 0, 0) 20 [some (.ref 5), some (zI r), some (zI q), l3] [] n h Q := by
  have hm := HC.2.2.2.2.1
  intro k
  induction k with
  | zero =>
    intro q h s l3 hk hB hfin
    have : q = r := by omega
    subst this
    refine tt_op rfl rfl ?_
    refine tt_op rfl rfl ?_
    refine z_icmp rfl (by first | assumption | (unfold R3; omega)) (by first | assumption | (unfold R3; omega)) (fun c => ?_) (fun c => absurd (by simp only [zcd] <;> omega) c)
    exact hfin h l3 hB
  | succ k ih =>
    intro q h s l3 hk hB hfin
    refine tt_op rfl rfl ?_
    refine tt_op rfl rfl ?_
    refine z_icmp rfl (by first | assumption | (unfold R3; omega)) (by first | assumption | (unfold R3; omega)) (fun c => absurd c (by simp only [zcd] <;> omega)) (fun c => ?_)
    refine tt_op rfl rfl ?_
    refine tt_op rfl rfl ?_
    refine c_build_p HC q r (by omega) hr Q q 0 h s (by omega) hB (fun h' hB' => ?_)
    refine z_iinc rfl rfl rfl ?_
    refine tt_goto rfl ?_
    exact ih (q + 1) h' _ _ (by omega) hB' hfin
set_option maxRecDepth 10000 in
theorem c_build_r (HC : xCl h0 m P) (Q : xQt) : ∀ (k r : Nat) (h : xHp) (s : Nat × (Nat → FD)) (l2 l3 : Option Value), 2 ≤ r → r + k = max m 2 → bI E CB six h0 h s → (∀ h' (rv l2 l3 : Option Value), bI E CB six h0 h' (rR P m k r s) → xT xmX1_build (7, 0, 0, 0, 0) 57 [some (.ref 5), rv, l2, l3] [] n h' Q) → xT xmX1_build (7, 0, 0, 0, 0) 7 [some (.ref 5), some (zI r), l2, l3] [] n h Q := by
  have hm := HC.2.2.2.2.1
  intro k
  induction k with
  | zero =>
    intro r h s l2 l3 h2 hk hB hfin
    have h5 := hB.1
    have h1 := (bI_cl HC hB).1
    refine tt_op rfl rfl ?_
    refine tt_op rfl rfl ?_
    refine tt_get rfl (by assumption) (by rfl) ?_
    refine tt_get rfl (by assumption) (by rfl) ?_
    refine z_icmp rfl (by first | assumption | (unfold R3; omega)) (by first | assumption | (unfold R3; omega)) (fun c => ?_) (fun c => absurd (by simp only [zcd] <;> omega) c)
    exact hfin h _ l2 l3 hB
  | succ k ih =>
    intro r h s l2 l3 h2 hk hB hfin
    have h5 := hB.1
    have h1 := (bI_cl HC hB).1
    refine tt_op rfl rfl ?_
    refine tt_op rfl rfl ?_
    refine tt_get rfl (by assumption) (by rfl) ?_
    refine tt_get rfl (by assumption) (by rfl) ?_
    refine z_icmp rfl (by first | assumption | (unfold R3; omega)) (by first | assumption | (unfold R3; omega)) (fun c => absurd c (by simp only [zcd] <;> omega)) (fun c => ?_)
    refine tt_op rfl rfl ?_
    refine tt_op rfl rfl ?_
    refine c_build_q HC r (by omega) Q (r - 1) 1 h s l3 (by omega) hB (fun h' l3 hB' => ?_)
    refine z_iinc rfl rfl rfl ?_
    refine tt_goto rfl ?_
    exact ih (r + 1) h' _ _ _ (by omega) (by omega) hB' (fun h'' r' l2 l3 hB'' => hfin h'' r' l2 l3 hB'')
theorem bsK_fe {x y : FD} (h : feq x y) : ∀ (j k : Nat) (b : Nat → Nat), k + j ≤ x.2.2.2.2.1 → bsK x j k b = bsK y j k b
  | 0, k, b, hk => rfl
  | j + 1, k, b, hk => by
    obtain ⟨a1, a2, a3, a4, a5, a6⟩ := id h
    unfold bsK
    have e1 : nxk x k = nxk y k := by unfold nxk; rw [a5]
    have e2 : nxk x k < x.2.2.2.2.1 := by unfold nxk; split <;> omega
    rw [a6 k (by omega), ← e1, a6 (nxk x k) e2]
    exact bsK_fe h j (k + 1) _ (by omega)
theorem jnR_fe {f g : Nat → FD} : ∀ (k i cb sd : Nat) (b : Nat → Nat), (∀ j, j < i + k → feq (f j) (g j)) → jnR f k i cb sd b = jnR g k i cb sd b
  | 0, i, cb, sd, b, h => rfl
  | k + 1, i, cb, sd, b, h => by
    have e := h i (by omega)
    unfold jnR
    rw [e.2.2.2.1, bsK_fe e _ 0 b (by omega), e.2.2.2.2.1]
    exact jnR_fe k (i + 1) _ _ _ (fun j hj => h j (by omega))
theorem wgK_fe {x y : FD} (h : feq x y) : ∀ (j k : Nat) (s : Int) (mo : Nat → Int), (j = 0 ∨ (1 ≤ k ∧ k + j ≤ x.2.2.2.2.1)) → wgK P x j k s mo = wgK P y j k s mo
  | 0, k, s, mo, hk => rfl
  | j + 1, k, s, mo, hk => by
    obtain ⟨a1, a2, a3, a4, a5, a6⟩ := id h
    unfold wgK
    rw [a6 0 (by omega), a6 (k - 1) (by omega), a6 k (by omega)]
    exact wgK_fe h j (k + 1) _ _ (by omega)
theorem wgR_fe {f g : Nat → FD} : ∀ (k i : Nat) (s : Int) (mo : Nat → Int), (∀ j, j < i + k → feq (f j) (g j)) → wgR P f k i s mo = wgR P g k i s mo
  | 0, i, s, mo, h => rfl
  | k + 1, i, s, mo, h => by
    have e := h i (by omega)
    unfold wgR
    rw [wgK_fe e _ 2 s mo (by omega), e.2.2.2.2.1]
    exact wgR_fe k (i + 1) _ _ (fun j hj => h j (by omega))
theorem wgK_mo {x : FD} : ∀ (j k : Nat) (s : Int) (mo mo' : Nat → Int), (∀ i, i < 3 → mo i = mo' i) → (wgK P x j k s mo).1 = (wgK P x j k s mo').1 ∧ ∀ i, i < 3 → (wgK P x j k s mo).2 i = (wgK P x j k s mo').2 i
  | 0, k, s, mo, mo', h => ⟨rfl, h⟩
  | j + 1, k, s, mo, mo', h => wgK_mo j (k + 1) _ _ _ (fun i hi => by unfold wMo; rw [if_pos hi, if_pos hi, h i hi])
theorem wgR_mo {f : Nat → FD} : ∀ (k i : Nat) (s : Int) (mo mo' : Nat → Int), (∀ i, i < 3 → mo i = mo' i) → (wgR P f k i s mo).1 = (wgR P f k i s mo').1 ∧ ∀ j, j < 3 → (wgR P f k i s mo).2 j = (wgR P f k i s mo').2 j
  | 0, i, s, mo, mo', h => ⟨rfl, h⟩
  | k + 1, i, s, mo, mo', h => by
    obtain ⟨e1, e2⟩ := wgK_mo (P := P) (x := f i) ((f i).2.2.2.2.1 - 2) 2 s mo mo' h
    unfold wgR
    rw [e1]
    exact wgR_mo k (i + 1) _ _ _ e2
/-- what the hull holds of the points -/
def hCB (P : Nat → V3) (m : Nat) : Nat := (jnR (blF P m).2 (blF P m).1 0 0 0 (fun _ => 0)).1
def hE (P : Nat → V3) (m : Nat) : Nat := (jnR (blF P m).2 (blF P m).1 0 0 0 (fun _ => 0)).2.1 / 2
def hBs (P : Nat → V3) (m : Nat) : Nat → Nat := (jnR (blF P m).2 (blF P m).1 0 0 0 (fun _ => 0)).2.2
def hSix (P : Nat → V3) (m : Nat) : Int := (wgR P (blF P m).2 (blF P m).1 0 0 (fun _ => 0)).1
def hMo (P : Nat → V3) (m : Nat) : Nat → Int := (wgR P (blF P m).2 (blF P m).1 0 0 (fun _ => 0)).2
/-- the hull stands for these points -/
def xHu (h : xHp) (m : Nat) (P : Nat → V3) : Prop := h 5 = some (huC (blF P m).1 (hE P m) (hCB P m) (hSix P m)) ∧ (blF P m).1 ≤ 24 ∧ (∃ ad f, xHf h ad f ∧ ∀ i, i < (blF P m).1 → feq (f i) ((blF P m).2 i)) ∧ (∃ b, h 7 = some (bA b) ∧ ∀ j, j < 14 → b j = hBs P m j) ∧ ∃ mo, h 8 = some (mA mo) ∧ ∀ j, j < 3 → mo j = hMo P m j
set_option maxRecDepth 10000 in
theorem c_build (HC : xCl h0 m P) (F0 : Nat) (h5 : h0 5 = some (huC F0 E CB six)) (ad : Nat → Nat) (f : Nat → FD) (H : xHf h0 ad f) (b0 : Nat → Nat) (h7 : h0 7 = some (bA b0)) (mo0 : Nat → Int) (h8 : h0 8 = some (mA mo0)) : xCall xmX1_build 7 0 0 [.ref 5] n h0 (fun r n' h' => r = none ∧ n' = n ∧ xHu h' m P ∧ ∀ j, (j < 5 ∨ 57 ≤ j) → h' j = h0 j) := by
  have hm := HC.2.2.2.2.1
  refine xCall.of xgX1_build rfl ?_
  refine tt_op rfl rfl ?_
  refine tt_op rfl rfl ?_
  refine tt_put rfl (h5) rfl (by decide) (by rfl) (by rfl) rfl ?_
  refine tt_op rfl rfl ?_
  refine tt_op rfl rfl ?_
  refine c_build_r (E := E) (CB := CB) (six := six) (h0 := h0) HC _ (m - 2) 2 _ (0, fun _ => ((0, 0, 0), 0, 0, 0, 0, fun _ => 0)) none none (by omega) (by omega) ⟨xup_s, by decide, ⟨ad, f, xHf_up (by omega) H, fun i hi => absurd hi (by show ¬ i < 0; omega)⟩, fun j hj => xup_n (by omega)⟩ (fun h' r l2 l3 hB => ?_)
  have hB : bI E CB six h0 h' (blF P m) := hB
  have K := bI_cl HC hB
  obtain ⟨g5, hs, ⟨ad', f', H', hfe⟩, ho⟩ := hB
  have g7 : h' 7 = some (bA b0) := by rw [ho 7 (by omega)]; exact h7
  refine tt_op rfl rfl ?_
  refine tt_callV (M' := xmX1_join) rfl rfl rfl g5 rfl (c_join g5 H' hs b0 g7) ?_
  rintro res n1 h1 ⟨rfl, rfl, b, hb, rfl⟩
  have ej := jnR_fe (f := f') (g := (blF P m).2) (blF P m).1 0 0 0 (fun _ => 0) (fun j hj => hfe j (by omega))
  rw [ej] at hb ⊢
  have K2 := xCl_up (e := huC (blF P m).1 (hE P m) (hCB P m) six) (show 5 ≤ 5 by omega) (xCl_up (e := bA b) (show 5 ≤ 7 by omega) K)
  have H2 := xHf_up (e := huC (blF P m).1 (hE P m) (hCB P m) six) (q := 5) (by omega) (xHf_up (e := bA b) (q := 7) (by omega) H')
  have g5' := (xup_s : xup (xup h' 7 (bA b)) 5 (huC (blF P m).1 (hE P m) (hCB P m) six) 5 = _)
  have g8 : xup (xup h' 7 (bA b)) 5 (huC (blF P m).1 (hE P m) (hCB P m) six) 8 = some (mA mo0) := by rw [xup_n (by omega), xup_n (by omega), ho 8 (by omega)]; exact h8
  refine tt_op rfl rfl ?_
  refine tt_callV (M' := xmX1_weigh) rfl rfl rfl g5' rfl (c_weigh g5' K2 H2 hs mo0 g8) ?_
  rintro res2 n2 h2 ⟨rfl, rfl, mo, hmo, rfl⟩
  refine tt_return rfl rfl (Nat.le_of_ble_eq_true rfl) (Nat.le_of_ble_eq_true rfl) ?_
  have ew := wgR_fe (P := P) (f := f') (g := (blF P m).2) (blF P m).1 0 0 mo (fun j hj => hfe j (by omega))
  obtain ⟨e1, e2⟩ := wgR_mo (P := P) (f := (blF P m).2) (blF P m).1 0 0 mo (fun _ => 0) hmo
  rw [ew, e1]
  refine ⟨rfl, rfl, ⟨xup_s, hs, ⟨ad', f', xHf_up (by omega) (xHf_up (by omega) H2), hfe⟩, ⟨b, ?_, hb⟩, ⟨_, ?_, e2⟩⟩, fun j hj => ?_⟩
  · rw [xup_n (by omega), xup_n (by omega), xup_n (by omega)]; exact xup_s
  · rw [xup_n (by omega)]; exact xup_s
  · rw [xup_n (by omega), xup_n (by omega), xup_n (by omega), xup_n (by omega)]
    exact ho j (by omega)
end BL
