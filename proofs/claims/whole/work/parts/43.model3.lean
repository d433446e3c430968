/-! The reference: building -/
def mR (P : Nat → V3) (m p q : Nat) : Nat → Nat → S5 → S5
  | 0, _, s => s
  | k + 1, r, s => mR P m p q k (r + 1) (tpS P m p q r s)
def mQ (P : Nat → V3) (m p : Nat) : Nat → Nat → S5 → S5
  | 0, _, s => s
  | k + 1, q, s => mQ P m p k (q + 1) (mR P m p q (m - (q + 1)) (q + 1) s)
def mP (P : Nat → V3) (m : Nat) : Nat → Nat → S5 → S5
  | 0, _, s => s
  | k + 1, p, s => mP P m k (p + 1) (mQ P m p (m - (p + 1)) (p + 1) s)
/-- all planes of the points -/
def mtF (P : Nat → V3) (m : Nat) (s : S5) : S5 := mP P m m 0 s
def gA (s : S5) : Prop := (s.1 = 0 ∨ s.1 = 1) ∧ (∀ j, j < 24 → s.2.2.1 j < 16384) ∧ (∀ j, j < 24 → vbd 3200 (s.2.2.2.1 j)) ∧ ∀ j, j < 24 → -1000000 ≤ s.2.2.2.2 j ∧ s.2.2.2.2 j ≤ 1000000
theorem tdiv_bd' {x y A : Int} (hx : -A ≤ x ∧ x ≤ A) : -A ≤ x.tdiv y ∧ x.tdiv y ≤ A := by
  have h := Int.natAbs_tdiv_le_natAbs x y
  omega
theorem tpS_gA {P : Nat → V3} {m p q r : Nat} (hb : pbd P) (hm : m ≤ 14) (hp : p < m) (hq : q < m) (hr : r < m) {s : S5} (h : gA s) : gA (tpS P m p q r s) := by
  obtain ⟨h1, h2, h3, h4⟩ := h
  have hA := crs_bd hb (show p < 14 by omega) (show q < 14 by omega) (show r < 14 by omega)
  have hH := dot_bd hA (hb p (by omega))
  have hF : tpF P m p q r s.1 = 0 ∨ tpF P m p q r s.1 = 1 := by unfold tpF; split <;> simp
  unfold tpS
  split
  · exact ⟨h1, h2, h3, h4⟩
  · split
    · exact ⟨hF, h2, h3, h4⟩
    · split
      · exact ⟨hF, h2, h3, h4⟩
      · refine ⟨hF, fun j hj => ?_, fun j hj => ?_, fun j hj => ?_⟩
        · show nup s.2.2.1 s.2.1 _ j < 16384
          unfold nup
          split
          · exact bts_lt _ m hm
          · exact h2 j hj
        · show vbd 3200 (vup s.2.2.2.1 s.2.1 _ j)
          unfold vup
          split
          · exact ⟨tdiv_bd' hA.1, tdiv_bd' hA.2.1, tdiv_bd' hA.2.2⟩
          · exact h3 j hj
        · show -1000000 ≤ zup s.2.2.2.2 s.2.1 _ j ∧ zup s.2.2.2.2 s.2.1 _ j ≤ 1000000
          unfold zup
          split
          · exact tdiv_bd' (A := 1000000) (by omega)
          · exact h4 j hj
/-- there is room for all faces -/
def mCap (P : Nat → V3) (m : Nat) : Prop := ∃ J : S5 → Prop, (∀ fb nn lv, J (1, 0, fb, nn, lv)) ∧ (∀ s, J s → s.2.1 ≤ 24) ∧ ∀ p q r s, p < q → q < r → r < m → J s → (tpN P m p q r s → s.2.1 < 24) ∧ J (tpS P m p q r s)
def coB (fb : Nat → Nat) (fa k : Nat) : Bool := decide (2 < cnt (fun f => decide (fb f &&& 2 ^ k = 2 ^ k)) fa)
def coF (fb : Nat → Nat) (fa m : Nat) : Nat := bts (coB fb fa) m
/-- each face has its round -/
def mRows (P : Nat → V3) (m : Nat) : Prop := ∀ fb nn lv, (mtF P m (1, 0, fb, nn, lv)).1 = 0 → ∀ f, f < (mtF P m (1, 0, fb, nn, lv)).2.1 → ∃ R L, rowOk P m ((mtF P m (1, 0, fb, nn, lv)).2.2.1 f &&& coF (mtF P m (1, 0, fb, nn, lv)).2.2.1 (mtF P m (1, 0, fb, nn, lv)).2.1 m) ((mtF P m (1, 0, fb, nn, lv)).2.2.2.1 f) R L
def faR (fr : Nat → Nat) (fa : Nat) (fat : Nat → Nat) : Nat → Nat → Nat
  | 0 => fat
  | k + 1 => nup (faR fr fa fat k) (cnt (fun g => ibB fr g k) fa) k
/-- what is built: flat, corners, faces, bits, sizes, rows, normals, levels, order -/
abbrev B9 : Type := Nat × Nat × Nat × (Nat → Nat) × (Nat → Nat) × (Nat → Nat) × (Nat → V3) × (Nat → Int) × (Nat → Nat)
def mBt (P : Nat → V3) (m : Nat) (t : B9) : Prop :=
  (∃ fb nn lv, (t.1, t.2.2.1, t.2.2.2.1, t.2.2.2.2.2.2.1, t.2.2.2.2.2.2.2.1) = mtF P m (1, 0, fb, nn, lv)) ∧ gA (t.1, t.2.2.1, t.2.2.2.1, t.2.2.2.2.2.2.1, t.2.2.2.2.2.2.2.1) ∧ t.2.2.1 ≤ 24 ∧ (∀ j, j < 336 → t.2.2.2.2.2.1 j < 14) ∧
  (t.1 = 0 → t.2.1 = coF t.2.2.2.1 t.2.2.1 m ∧ (∀ f, f < t.2.2.1 → rowOk P m (t.2.2.2.1 f &&& t.2.1) (t.2.2.2.2.2.2.1 f) (fun k => t.2.2.2.2.2.1 (14 * f + k)) (t.2.2.2.2.1 f)) ∧ ∃ fat, t.2.2.2.2.2.2.2.2 = faR t.2.2.2.2.2.1 t.2.2.1 fat t.2.2.1)
section M3
variable {h : xHp} {m : Nat} {P : Nat → V3} {bu tb fl co fa : Nat} {fb fs fr : Nat → Nat} {nn : Nat → V3} {lv : Nat → Int} {a : V3} {fat : Nat → Nat} {w : Int × V3} {cm : Int} {cX cY cZ cD su sv : Nat → Int} {tu : Nat} {im : Nat → Int} {rk ba : Nat → Nat} {go : Nat → Int}
variable {n : Nat}
section MB
variable {J : S5 → Prop} (Js : ∀ p q r s, p < q → q < r → r < m → J s → (tpN P m p q r s → s.2.1 < 24) ∧ J (tpS P m p q r s)) (Jb : ∀ s, J s → s.2.1 ≤ 24)
set_option maxRecDepth 10000 in
theorem m_build_r (Js : ∀ p q r s, p < q → q < r → r < m → J s → (tpN P m p q r s → s.2.1 < 24) ∧ J (tpS P m p q r s)) (Jb : ∀ s, J s → s.2.1 ≤ 24) (hb : pbd P) (hm : m ≤ 14) {p q : Nat} (hpq : p < q) (hq : q < m) (Q : xQt) : ∀ (k r : Nat) (s : S5) (a : V3), r + k = m → q < r → J s → gA s → (∀ a', J (mR P m p q k r s) → gA (mR P m p q k r s) → xT xmX6_build (4, 0, 0, 0, 0) 80 [some (.ref 64), some (zI p), some (zI q), some (zI m)] [] n (mdH h m P bu tb ((mR P m p q k r s).1) co ((mR P m p q k r s).2.1) ((mR P m p q k r s).2.2.1) fs fr ((mR P m p q k r s).2.2.2.1) ((mR P m p q k r s).2.2.2.2) (a') fat w cm cX cY cZ cD su sv tu im rk ba go) Q) → xT xmX6_build (4, 0, 0, 0, 0) 59 [some (.ref 64), some (zI p), some (zI q), some (zI r)] [] n (mdH h m P bu tb (s.1) co (s.2.1) (s.2.2.1) fs fr (s.2.2.2.1) (s.2.2.2.2) a fat w cm cX cY cZ cD su sv tu im rk ba go) Q := by
  intro k
  induction k with
  | zero =>
    intro r s a hr hqr hJ hg hfin
    have : r = m := by omega
    subst this
    refine tt_op rfl rfl ?_
    refine tt_op rfl rfl ?_
    refine tt_get rfl md64 (by rfl) ?_
    refine z_icmp rfl (by first | assumption | (unfold R3; omega)) (by first | assumption | (unfold R3; omega)) (fun c => ?_) (fun c => absurd (by simp only [zcd] <;> omega) c)
    exact hfin a hJ hg
  | succ k ih =>
    intro r s a hr hqr hJ hg hfin
    have hJ' := Js p q r s hpq hqr (by omega) hJ
    have hg' := tpS_gA hb hm (p := p) (q := q) (r := r) (by omega) (by omega) (by omega) hg
    refine tt_op rfl rfl ?_
    refine tt_op rfl rfl ?_
    refine tt_get rfl md64 (by rfl) ?_
    refine z_icmp rfl (by first | assumption | (unfold R3; omega)) (by first | assumption | (unfold R3; omega)) (fun c => absurd c (by simp only [zcd] <;> omega)) (fun c => ?_)
    refine tt_op rfl rfl ?_
    refine tt_op rfl rfl ?_
    refine tt_op rfl rfl ?_
    refine tt_op rfl rfl ?_
    refine tt_callV (M' := xmX6_tryPlane) rfl rfl rfl md64 rfl (m_tryPlane hb hm (p := p) (q := q) (r := r) (by omega) (by omega) (by omega) (Jb s hJ) hg.2.1 hJ'.1 hg.1) ?_
    rintro res n' h' ⟨rfl, rfl, rfl⟩
    refine z_iinc rfl rfl rfl ?_
    refine tt_goto rfl ?_
    exact ih (r + 1) (tpS P m p q r s) (crs P p q r) (by omega) (by omega) hJ'.2 hg' hfin
set_option maxRecDepth 10000 in
theorem m_build_q (Js : ∀ p q r s, p < q → q < r → r < m → J s → (tpN P m p q r s → s.2.1 < 24) ∧ J (tpS P m p q r s)) (Jb : ∀ s, J s → s.2.1 ≤ 24) (hb : pbd P) (hm : m ≤ 14) {p : Nat} (hp : p < m) (Q : xQt) : ∀ (k q : Nat) (s : S5) (a : V3) (l3 : Option Value), q + k = m → p < q → J s → gA s → (∀ a' l3, J (mQ P m p k q s) → gA (mQ P m p k q s) → xT xmX6_build (4, 0, 0, 0, 0) 86 [some (.ref 64), some (zI p), some (zI m), l3] [] n (mdH h m P bu tb ((mQ P m p k q s).1) co ((mQ P m p k q s).2.1) ((mQ P m p k q s).2.2.1) fs fr ((mQ P m p k q s).2.2.2.1) ((mQ P m p k q s).2.2.2.2) (a') fat w cm cX cY cZ cD su sv tu im rk ba go) Q) → xT xmX6_build (4, 0, 0, 0, 0) 47 [some (.ref 64), some (zI p), some (zI q), l3] [] n (mdH h m P bu tb (s.1) co (s.2.1) (s.2.2.1) fs fr (s.2.2.2.1) (s.2.2.2.2) a fat w cm cX cY cZ cD su sv tu im rk ba go) Q := by
  intro k
  induction k with
  | zero =>
    intro q s a l3 hr hqr hJ hg hfin
    have : q = m := by omega
    subst this
    refine tt_op rfl rfl ?_
    refine tt_op rfl rfl ?_
    refine tt_get rfl md64 (by rfl) ?_
    refine z_icmp rfl (by first | assumption | (unfold R3; omega)) (by first | assumption | (unfold R3; omega)) (fun c => ?_) (fun c => absurd (by simp only [zcd] <;> omega) c)
    exact hfin a l3 hJ hg
  | succ k ih =>
    intro q s a l3 hr hqr hJ hg hfin
    refine tt_op rfl rfl ?_
    refine tt_op rfl rfl ?_
    refine tt_get rfl md64 (by rfl) ?_
    refine z_icmp rfl (by first | assumption | (unfold R3; omega)) (by first | assumption | (unfold R3; omega)) (fun c => absurd c (by simp only [zcd] <;> omega)) (fun c => ?_)
    refine tt_op rfl rfl ?_
    refine tt_op rfl rfl ?_
    refine z_iadd rfl ?_
    refine tt_op rfl rfl ?_
    refine m_build_r Js Jb hb hm hqr (by omega) Q (m - (q + 1)) (q + 1) s a (by omega) (by omega) hJ hg (fun a' hJ' hg' => ?_)
    refine z_iinc rfl rfl rfl ?_
    refine tt_goto rfl ?_
    exact ih (q + 1) _ a' _ (by omega) (by omega) hJ' hg' hfin
set_option maxRecDepth 10000 in
theorem m_build_p (Js : ∀ p q r s, p < q → q < r → r < m → J s → (tpN P m p q r s → s.2.1 < 24) ∧ J (tpS P m p q r s)) (Jb : ∀ s, J s → s.2.1 ≤ 24) (hb : pbd P) (hm : m ≤ 14) (Q : xQt) : ∀ (k p : Nat) (s : S5) (a : V3) (l2 l3 : Option Value), p + k = m → J s → gA s → (∀ a' l2 l3, J (mP P m k p s) → gA (mP P m k p s) → xT xmX6_build (4, 0, 0, 0, 0) 92 [some (.ref 64), some (zI m), l2, l3] [] n (mdH h m P bu tb ((mP P m k p s).1) co ((mP P m k p s).2.1) ((mP P m k p s).2.2.1) fs fr ((mP P m k p s).2.2.2.1) ((mP P m k p s).2.2.2.2) (a') fat w cm cX cY cZ cD su sv tu im rk ba go) Q) → xT xmX6_build (4, 0, 0, 0, 0) 35 [some (.ref 64), some (zI p), l2, l3] [] n (mdH h m P bu tb (s.1) co (s.2.1) (s.2.2.1) fs fr (s.2.2.2.1) (s.2.2.2.2) a fat w cm cX cY cZ cD su sv tu im rk ba go) Q := by
  intro k
  induction k with
  | zero =>
    intro p s a l2 l3 hr hJ hg hfin
    have : p = m := by omega
    subst this
    refine tt_op rfl rfl ?_
    refine tt_op rfl rfl ?_
    refine tt_get rfl md64 (by rfl) ?_
    refine z_icmp rfl (by first | assumption | (unfold R3; omega)) (by first | assumption | (unfold R3; omega)) (fun c => ?_) (fun c => absurd (by simp only [zcd] <;> omega) c)
    exact hfin a l2 l3 hJ hg
  | succ k ih =>
    intro p s a l2 l3 hr hJ hg hfin
    refine tt_op rfl rfl ?_
    refine tt_op rfl rfl ?_
    refine tt_get rfl md64 (by rfl) ?_
    refine z_icmp rfl (by first | assumption | (unfold R3; omega)) (by first | assumption | (unfold R3; omega)) (fun c => absurd c (by simp only [zcd] <;> omega)) (fun c => ?_)
    refine tt_op rfl rfl ?_
    refine tt_op rfl rfl ?_
    refine z_iadd rfl ?_
    refine tt_op rfl rfl ?_
    refine m_build_q Js Jb hb hm (p := p) (by omega) Q (m - (p + 1)) (p + 1) s a _ (by omega) (by omega) hJ hg (fun a' l3 hJ' hg' => ?_)
    refine z_iinc rfl rfl rfl ?_
    refine tt_goto rfl ?_
    exact ih (p + 1) _ a' _ _ (by omega) hJ' hg' hfin
end MB
set_option maxRecDepth 10000 in
set_option maxHeartbeats 1000000 in
theorem m_build_co (hm : m ≤ 14) (hfa : fa ≤ 24) (hfb : ∀ j, j < 24 → fb j < 16384) (Q : xQt) (l2 l3 : Option Value) (hfin : xT xmX6_build (4, 0, 0, 0, 0) 143 [some (.ref 64), some (zI m), l2, l3] [] n (mdH h m P bu tb fl (coF fb fa m) fa fb fs fr nn lv a fat w cm cX cY cZ cD su sv tu im rk ba go) Q) : ∀ (j k : Nat), k + j = m → xT xmX6_build (4, 0, 0, 0, 0) 102 [some (.ref 64), some (zI k), l2, l3] [] n (mdH h m P bu tb fl (bts (coB fb fa) k) fa fb fs fr nn lv a fat w cm cX cY cZ cD su sv tu im rk ba go) Q := by
  intro j
  induction j with
  | zero =>
    intro k hk
    have : k = m := by omega
    subst this
    refine tt_op rfl rfl ?_
    refine tt_op rfl rfl ?_
    refine tt_get rfl md64 (by rfl) ?_
    refine z_icmp rfl (by first | assumption | (unfold R3; omega)) (by first | assumption | (unfold R3; omega)) (fun c => ?_) (fun c => absurd (by simp only [zcd] <;> omega) c)
    exact hfin
  | succ j ih =>
    intro k hk
    have hc := cnt_le (fun f => decide (fb f &&& 2 ^ k = 2 ^ k)) fa
    refine tt_op rfl rfl ?_
    refine tt_op rfl rfl ?_
    refine tt_get rfl md64 (by rfl) ?_
    refine z_icmp rfl (by first | assumption | (unfold R3; omega)) (by first | assumption | (unfold R3; omega)) (fun c => absurd c (by simp only [zcd] <;> omega)) (fun c => ?_)
    refine tt_op rfl rfl ?_
    refine tt_op rfl rfl ?_
    refine tt_get rfl md64 (by rfl) ?_
    refine tt_op rfl rfl ?_
    refine tt_op rfl rfl ?_
    refine tt_op rfl rfl ?_
    refine z_shl1 rfl (by omega) ?_
    refine tt_pV rfl rfl rfl md64 rfl (m_facesOf hfa hfb (2 ^ k) (bits_pow (by omega))) ?_
    refine tt_op rfl rfl ?_
    have nxt : ∀ x : Nat, x = (if coB fb fa k = true then 2 ^ k else 0) → xT xmX6_build (4, 0, 0, 0, 0) 133 [some (.ref 64), some (zI k), l2, l3] [zI x, zI (bts (coB fb fa) k : Nat), .ref 64] n (mdH h m P bu tb fl (bts (coB fb fa) k) fa fb fs fr nn lv a fat w cm cX cY cZ cD su sv tu im rk ba go) Q := by
      intro x hx
      refine z_ior rfl ?_
      refine md_pco rfl (by decide) ?_
      refine z_iinc rfl rfl rfl ?_
      refine tt_goto rfl ?_
      rw [hx]
      exact ih (k + 1) (by omega)
    refine z_icmp rfl ⟨by omega, by omega⟩ ⟨by decide, by decide⟩ (fun c1 => ?_) (fun c1 => ?_)
    · simp only [zcd] at c1
      refine tt_op rfl rfl ?_
      exact nxt 0 (by unfold coB; rw [decide_eq_false (by omega)]; rfl)
    · simp only [zcd] at c1
      refine tt_op rfl rfl ?_
      refine tt_op rfl rfl ?_
      refine z_shl1 rfl (by omega) ?_
      refine tt_goto rfl ?_
      exact nxt (2 ^ k) (by unfold coB; rw [decide_eq_true (by omega)]; rfl)
theorem lrW_in {fr : Nat → Nat} {f L k : Nat} {R : Nat → Nat} (hk : k < L) : lrW fr f R L (14 * f + k) = R k := by
  unfold lrW; rw [if_pos (by omega), show 14 * f + k - 14 * f = k by omega]
theorem lrW_out {fr : Nat → Nat} {f L j : Nat} {R : Nat → Nat} (hj : j < 14 * f) : lrW fr f R L j = fr j := by
  unfold lrW; rw [if_neg (by omega)]
set_option maxRecDepth 10000 in
set_option maxHeartbeats 1000000 in
theorem m_build_lay (hb : pbd P) (hm : m ≤ 14) (hfa : fa ≤ 24) (hfb : ∀ j, j < 24 → fb j < 16384) (hnn : ∀ j, j < 24 → vbd 3200 (nn j)) (hrow : ∀ f, f < fa → ∃ R L, rowOk P m (fb f &&& co) (nn f) R L) (Q : xQt) (l2 l3 : Option Value) (hfin : ∀ a fr fs, (∀ j, j < 336 → fr j < 14) → (∀ f, f < fa → rowOk P m (fb f &&& co) (nn f) (fun k => fr (14 * f + k)) (fs f)) → xT xmX6_build (4, 0, 0, 0, 0) 164 [some (.ref 64), some (zI fa), l2, l3] [] n (mdH h m P bu tb fl co fa fb fs fr nn lv a fat w cm cX cY cZ cD su sv tu im rk ba go) Q) : ∀ (j f : Nat) (a : V3) (fr fs : Nat → Nat), f + j = fa → (∀ j, j < 336 → fr j < 14) → (∀ g, g < f → rowOk P m (fb g &&& co) (nn g) (fun k => fr (14 * g + k)) (fs g)) → xT xmX6_build (4, 0, 0, 0, 0) 145 [some (.ref 64), some (zI f), l2, l3] [] n (mdH h m P bu tb fl co fa fb fs fr nn lv a fat w cm cX cY cZ cD su sv tu im rk ba go) Q := by
  intro j
  induction j with
  | zero =>
    intro f a fr fs hf hr hok
    have : f = fa := by omega
    subst this
    refine tt_op rfl rfl ?_
    refine tt_op rfl rfl ?_
    refine tt_get rfl md64 (by rfl) ?_
    refine z_icmp rfl (by first | assumption | (unfold R3; omega)) (by first | assumption | (unfold R3; omega)) (fun c => ?_) (fun c => absurd (by simp only [zcd] <;> omega) c)
    exact hfin a fr fs hr hok
  | succ j ih =>
    intro f a fr fs hf hr hok
    obtain ⟨R, L, hRL⟩ := hrow f (by omega)
    refine tt_op rfl rfl ?_
    refine tt_op rfl rfl ?_
    refine tt_get rfl md64 (by rfl) ?_
    refine z_icmp rfl (by first | assumption | (unfold R3; omega)) (by first | assumption | (unfold R3; omega)) (fun c => absurd c (by simp only [zcd] <;> omega)) (fun c => ?_)
    refine tt_op rfl rfl ?_
    refine tt_op rfl rfl ?_
    refine tt_callV (M' := xmX6_layRound) rfl rfl rfl md64 rfl (m_layRound hb hm (f := f) (by omega) (hfb f (by omega)) (hnn f (by omega)) R L hRL) ?_
    rintro res n' h' ⟨rfl, rfl, a', rfl⟩
    refine z_iinc rfl rfl rfl ?_
    refine tt_goto rfl ?_
    refine ih (f + 1) a' _ _ (by omega) (fun j hj => ?_) (fun g hg => ?_)
    · unfold lrW
      split
      · rename_i hc
        have := hRL.2.1 (j - 14 * f) (by omega)
        omega
      · exact hr j hj
    · by_cases e : g = f
      · subst e
        show rowOk _ _ _ _ _ (nup fs g L g)
        rw [show nup fs g L g = L by unfold nup; rw [if_pos rfl]]
        exact rowOk_cg hRL (fun k hk => lrW_in hk)
      · show rowOk _ _ _ _ _ (nup fs f L g)
        rw [show nup fs f L g = fs g by unfold nup; rw [if_neg e]]
        have hg' := hok g (by omega)
        exact rowOk_cg hg' (fun k hk => lrW_out (by have := hg'.1.2; omega))
set_option maxRecDepth 10000 in
set_option maxHeartbeats 1000000 in
theorem m_build_at (hfa : fa ≤ 24) (hfr : ∀ j, j < 336 → fr j < 14) (fat0 : Nat → Nat) (Q : xQt) (hfin : Q none n (mdH h m P bu tb fl co fa fb fs fr nn lv a (faR fr fa fat0 fa) w cm cX cY cZ cD su sv tu im rk ba go)) : ∀ (j f : Nat) (l2 l3 : Option Value), f + j = fa → xT xmX6_build (4, 0, 0, 0, 0) 166 [some (.ref 64), some (zI f), l2, l3] [] n (mdH h m P bu tb fl co fa fb fs fr nn lv a (faR fr fa fat0 f) w cm cX cY cZ cD su sv tu im rk ba go) Q := by
  intro j
  induction j with
  | zero =>
    intro f l2 l3 hf
    have : f = fa := by omega
    subst this
    refine tt_op rfl rfl ?_
    refine tt_op rfl rfl ?_
    refine tt_get rfl md64 (by rfl) ?_
    refine z_icmp rfl (by first | assumption | (unfold R3; omega)) (by first | assumption | (unfold R3; omega)) (fun c => ?_) (fun c => absurd (by simp only [zcd] <;> omega) c)
    refine tt_return rfl rfl (Nat.le_of_ble_eq_true rfl) (Nat.le_of_ble_eq_true rfl) ?_
    exact hfin
  | succ j ih =>
    intro f l2 l3 hf
    have hlt := cnt_lt (p := fun g => ibB fr g f) (ibB_self fr f) fa (by omega)
    refine tt_op rfl rfl ?_
    refine tt_op rfl rfl ?_
    refine tt_get rfl md64 (by rfl) ?_
    refine z_icmp rfl (by first | assumption | (unfold R3; omega)) (by first | assumption | (unfold R3; omega)) (fun c => absurd c (by simp only [zcd] <;> omega)) (fun c => ?_)
    refine tt_op rfl rfl ?_
    refine tt_op rfl rfl ?_
    refine tt_op rfl rfl ?_
    refine tt_op rfl rfl ?_
    have inn : ∀ (j g : Nat), g + j = fa → xT xmX6_build (4, 0, 0, 0, 0) 178 [some (.ref 64), some (zI f), some (zI (cnt (fun g => ibB fr g f) g : Nat)), some (zI g)] [] n (mdH h m P bu tb fl co fa fb fs fr nn lv a (faR fr fa fat0 f) w cm cX cY cZ cD su sv tu im rk ba go) Q := by
      intro j
      induction j with
      | zero =>
        intro g hg
        have : g = fa := by omega
        subst this
        refine tt_op rfl rfl ?_
        refine tt_op rfl rfl ?_
        refine tt_get rfl md64 (by rfl) ?_
        refine z_icmp rfl (by first | assumption | (unfold R3; omega)) (by first | assumption | (unfold R3; omega)) (fun c => ?_) (fun c => absurd (by simp only [zcd] <;> omega) c)
        refine tt_op rfl rfl ?_
        refine tt_get rfl md64 (by rfl) ?_
        refine tt_op rfl rfl ?_
        refine tt_op rfl rfl ?_
        refine md_s75 rfl rfl (by omega) ?_
        refine z_iinc rfl rfl rfl ?_
        refine tt_goto rfl ?_
        exact ih (f + 1) _ _ (by omega)
      | succ j ihg =>
        intro g hg
        refine tt_op rfl rfl ?_
        refine tt_op rfl rfl ?_
        refine tt_get rfl md64 (by rfl) ?_
        refine z_icmp rfl (by first | assumption | (unfold R3; omega)) (by first | assumption | (unfold R3; omega)) (fun c => absurd c (by simp only [zcd] <;> omega)) (fun c => ?_)
        refine tt_op rfl rfl ?_
        refine tt_op rfl rfl ?_
        refine tt_op rfl rfl ?_
        refine tt_op rfl rfl ?_
        refine tt_pV rfl rfl rfl md64 rfl (m_isBefore hfr (f := g) (g := f) (by omega) (by omega)) ?_
        have nxt : ∀ x : Nat, x = (if ibB fr g f = true then 1 else 0) → xT xmX6_build (4, 0, 0, 0, 0) 201 [some (.ref 64), some (zI f), some (zI (cnt (fun g => ibB fr g f) g : Nat)), some (zI g)] [zI x, zI (cnt (fun g => ibB fr g f) g : Nat)] n (mdH h m P bu tb fl co fa fb fs fr nn lv a (faR fr fa fat0 f) w cm cX cY cZ cD su sv tu im rk ba go) Q := by
          intro x hx
          refine z_iadd rfl ?_
          refine tt_op rfl rfl ?_
          refine z_iinc rfl rfl rfl ?_
          refine tt_goto rfl ?_
          have e : ((cnt (fun g => ibB fr g f) g : Nat) : Int) + (x : Int) = ((cnt (fun g => ibB fr g f) (g + 1) : Nat) : Int) := by
            rw [hx]
            show _ = (((cnt (fun g => ibB fr g f) g + (if ibB fr g f = true then 1 else 0) : Nat)) : Int)
            omega
          rw [e]
          exact ihg (g + 1) (by omega)
        refine z_if rfl (z_b01 _) (fun c1 => ?_) (fun c1 => ?_)
        · have hy : ibB fr g f = false := by cases hy : ibB fr g f <;> simp_all [zcd]
          refine tt_op rfl rfl ?_
          exact nxt 0 (by rw [hy]; rfl)
        · have hy : ibB fr g f = true := by cases hy : ibB fr g f <;> simp_all [zcd]
          refine tt_op rfl rfl ?_
          refine tt_goto rfl ?_
          exact nxt 1 (by rw [hy]; rfl)
    exact inn fa 0 (by omega)
end M3
