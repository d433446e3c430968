/-- a symmetry: corners to corners, as far from one another as before -/
def sy (P : Nat → V3) (m : Nat) (s : Nat → Nat) : Prop := (∀ p, isCor P m p → isCor P m (s p)) ∧ ∀ p q, isCor P m p → isCor P m q → dst P (s p) (s q) = dst P p q
theorem dst_zero {P : Nat → V3} {m : Nat} (hD : Dis P m) {p q : Nat} (hp : p < m) (hq : q < m) (h : dst P p q = 0) : p = q := by
  have := (vO_iff _).1 (dot_self_zero h)
  simp only [vsub] at this
  exact hD p q hp hq (v3ext (by omega) (by omega) (by omega))
theorem dst_self (P : Nat → V3) (p : Nat) : dst P p p = 0 := by simp [dst, dot, vsub]
theorem dst_comm (P : Nat → V3) (p q : Nat) : dst P p q = dst P q p := by simp only [dst, dot, vsub]; grind
theorem sy_id (P : Nat → V3) (m : Nat) : sy P m (fun p => p) := ⟨fun _ h => h, fun _ _ _ _ => rfl⟩
theorem sy_comp {P : Nat → V3} {m : Nat} {s t : Nat → Nat} (hs : sy P m s) (ht : sy P m t) : sy P m (fun p => s (t p)) :=
  ⟨fun p h => hs.1 _ (ht.1 p h), fun p q hp hq => (hs.2 _ _ (ht.1 p hp) (ht.1 q hq)).trans (ht.2 p q hp hq)⟩
theorem sy_inj {P : Nat → V3} {m : Nat} (hD : Dis P m) {s : Nat → Nat} (hs : sy P m s) {p q : Nat} (hp : isCor P m p) (hq : isCor P m q) (h : s p = s q) : p = q := by
  have a := hs.2 p q hp hq
  rw [h, dst_self] at a
  exact dst_zero hD hp.1 hq.1 a.symm
theorem inj_surj {C : Nat → Prop} {N : Nat} (hC : ∀ k, C k → k < N) {s : Nat → Nat} (h1 : ∀ p, C p → C (s p)) (h2 : ∀ p q, C p → C q → s p = s q → p = q) {q : Nat} (hq : C q) : ∃ p, C p ∧ s p = q := by
  apply Classical.byContradiction
  intro h
  have a := ct_inj (p := C) (q := fun k => C k ∧ k ≠ q) (N := N) (M := N) s (fun k _ hk => ⟨hC _ (h1 k hk), h1 k hk, fun e => h ⟨k, hk, e⟩⟩) (fun j k _ _ hj hk e => h2 j k hj hk e)
  have b := ct_pop (q := C) (M := N) (hC q hq) hq
  omega
theorem sy_surj {P : Nat → V3} {m : Nat} (hD : Dis P m) {s : Nat → Nat} (hs : sy P m s) {q : Nat} (hq : isCor P m q) : ∃ p, isCor P m p ∧ s p = q :=
  inj_surj (C := isCor P m) (N := m) (fun k h => h.1) hs.1 (fun p q hp hq e => sy_inj hD hs hp hq e) hq
theorem sy_inv {P : Nat → V3} {m : Nat} (hD : Dis P m) {s : Nat → Nat} (hs : sy P m s) : ∃ t, sy P m t ∧ (∀ p, isCor P m p → t (s p) = p) ∧ ∀ p, isCor P m p → s (t p) = p := by
  have hex : ∀ q, ∃ p, isCor P m q → (isCor P m p ∧ s p = q) := by
    intro q
    by_cases h : isCor P m q
    · obtain ⟨p, hp⟩ := sy_surj hD hs h; exact ⟨p, fun _ => hp⟩
    · exact ⟨0, fun h' => absurd h' h⟩
  refine ⟨fun q => Classical.choose (hex q), ⟨fun q hq => (Classical.choose_spec (hex q) hq).1, fun p q hp hq => ?_⟩, fun p hp => ?_, fun q hq => (Classical.choose_spec (hex q) hq).2⟩
  · obtain ⟨a1, a2⟩ := Classical.choose_spec (hex p) hp
    obtain ⟨b1, b2⟩ := Classical.choose_spec (hex q) hq
    have := hs.2 _ _ a1 b1
    rw [a2, b2] at this; exact this.symm
  · obtain ⟨a1, a2⟩ := Classical.choose_spec (hex (s p)) (hs.1 p hp)
    exact sy_inj hD hs a1 hp a2
/-- products from distances -/
theorem gip (P : Nat → V3) (p q p' q' : Nat) : 2 * dot (vsub (P q) (P p)) (vsub (P q') (P p')) = dst P p q' + dst P q p' - dst P p p' - dst P q q' := by
  have t : ∀ a b c d : V3, 2 * dot (vsub b a) (vsub d c) = dot (vsub d a) (vsub d a) + dot (vsub c b) (vsub c b) - dot (vsub c a) (vsub c a) - dot (vsub d b) (vsub d b) := by
    intro a b c d; simp only [dot, vsub]; grind
  exact t _ _ _ _
theorem sy_ip {P : Nat → V3} {m : Nat} {s : Nat → Nat} (hs : sy P m s) {p q p' q' : Nat} (hp : isCor P m p) (hq : isCor P m q) (hp' : isCor P m p') (hq' : isCor P m q') : dot (vsub (P (s q)) (P (s p))) (vsub (P (s q')) (P (s p'))) = dot (vsub (P q) (P p)) (vsub (P q') (P p')) := by
  have a := gip P p q p' q'
  have b := gip P (s p) (s q) (s p') (s q')
  rw [hs.2 p q' hp hq', hs.2 q p' hq hp', hs.2 p p' hp hp', hs.2 q q' hq hq'] at b
  omega
/-- two boxes' product from their sides' products -/
theorem det_mul (u1 u2 u3 w1 w2 w3 : V3) : dot u3 (vcr u1 u2) * dot w3 (vcr w1 w2) = dot u3 w1 * (dot u1 w2 * dot u2 w3 - dot u1 w3 * dot u2 w2) + dot u3 w2 * (dot u1 w3 * dot u2 w1 - dot u1 w1 * dot u2 w3) + dot u3 w3 * (dot u1 w1 * dot u2 w2 - dot u1 w2 * dot u2 w1) := by
  have e1 : ∀ t : V3, dot t u3 * dot w3 (vcr w1 w2) = dot u3 w1 * dot t (vcr w2 w3) + dot u3 w2 * dot t (vcr w3 w1) + dot u3 w3 * dot t (vcr w1 w2) := by
    intro t; simp only [dot, vcr]; grind
  have e2 : ∀ a b c d : V3, dot (vcr a b) (vcr c d) = dot a c * dot b d - dot a d * dot b c := by
    intro a b c d; simp only [dot, vcr]; grind
  rw [dot_comm u3 (vcr u1 u2), e1, e2, e2, e2]
theorem bxs_det (P : Nat → V3) (p q r s : Nat) : bxs P p q r s = dot (vsub (P s) (P p)) (vcr (vsub (P q) (P p)) (vsub (P r) (P p))) := rfl
theorem sy_bxs2 {P : Nat → V3} {m : Nat} {s : Nat → Nat} (hs : sy P m s) {p q r t p' q' r' t' : Nat} (hp : isCor P m p) (hq : isCor P m q) (hr : isCor P m r) (ht : isCor P m t) (hp' : isCor P m p') (hq' : isCor P m q') (hr' : isCor P m r') (ht' : isCor P m t') : bxs P (s p) (s q) (s r) (s t) * bxs P (s p') (s q') (s r') (s t') = bxs P p q r t * bxs P p' q' r' t' := by
  simp only [bxs_det]
  rw [det_mul, det_mul]
  rw [sy_ip hs hp ht hp' hq', sy_ip hs hp ht hp' hr', sy_ip hs hp ht hp' ht', sy_ip hs hp hq hp' hq', sy_ip hs hp hq hp' hr', sy_ip hs hp hq hp' ht', sy_ip hs hp hr hp' hq', sy_ip hs hp hr hp' hr', sy_ip hs hp hr hp' ht']
/-- four corners with a body -/
theorem cor_base {P : Nat → V3} {m : Nat} (hm : m ≤ 14) (hD : Dis P m) (hs : Sol P m) : ∃ a b c x, isCor P m a ∧ isCor P m b ∧ isCor P m c ∧ isCor P m x ∧ bxs P a b c x ≠ 0 := by
  obtain ⟨a, b, c, ha, hb, hc, hne⟩ := sol_sw hm hD hs (d := (1, 0, 0)) (by simp [vO])
  have hN : ncr P a b c ≠ vO := by
    intro e; rw [swg_ncr, e] at hne; exact hne (by simp [dot, vO])
  obtain ⟨u, hu, u2⟩ := max_cor hm hD hs (ncr P a b c)
  obtain ⟨w, hw, w2⟩ := max_cor hm hD hs (vneg (ncr P a b c))
  obtain ⟨k, k1, k2⟩ := sol_np hs hN (dot (ncr P a b c) (P a))
  have p := u2 k k1; have q := w2 k k1
  rw [dot_neg, dot_neg] at q
  have bx : ∀ x, bxs P a b c x = dot (ncr P a b c) (P x) - dot (ncr P a b c) (P a) := by
    intro x
    show dot (vsub (P x) (P a)) (ncr P a b c) = _
    rw [dot_comm, dot_sub]
  by_cases h : dot (ncr P a b c) (P u) = dot (ncr P a b c) (P a)
  · exact ⟨a, b, c, w, ha, hb, hc, hw, by rw [bx]; omega⟩
  · exact ⟨a, b, c, u, ha, hb, hc, hu, by rw [bx]; omega⟩
/-- a symmetry turns or mirrors -/
theorem sy_det {P : Nat → V3} {m : Nat} (hm : m ≤ 14) (hD : Dis P m) (hs : Sol P m) {s : Nat → Nat} (hsy : sy P m s) : ∃ e : Int, (e = 1 ∨ e = -1) ∧ ∀ p q r t, isCor P m p → isCor P m q → isCor P m r → isCor P m t → bxs P (s p) (s q) (s r) (s t) = e * bxs P p q r t := by
  obtain ⟨a, b, c, x, ha, hb, hc, hx, hne⟩ := cor_base hm hD hs
  have sq := sy_bxs2 hsy ha hb hc hx ha hb hc hx
  have key : (bxs P (s a) (s b) (s c) (s x) - bxs P a b c x) * (bxs P (s a) (s b) (s c) (s x) + bxs P a b c x) = 0 := by grind
  rcases Int.mul_eq_zero.1 key with k | k
  · refine ⟨1, Or.inl rfl, fun p q r t hp hq hr ht => ?_⟩
    have q2 := sy_bxs2 hsy hp hq hr ht ha hb hc hx
    rw [show bxs P (s a) (s b) (s c) (s x) = bxs P a b c x by omega] at q2
    rw [Int.one_mul]; exact Int.eq_of_mul_eq_mul_right hne q2
  · refine ⟨-1, Or.inr rfl, fun p q r t hp hq hr ht => ?_⟩
    have q2 := sy_bxs2 hsy hp hq hr ht ha hb hc hx
    rw [show bxs P (s a) (s b) (s c) (s x) = - bxs P a b c x by omega] at q2
    have : bxs P (s p) (s q) (s r) (s t) * bxs P a b c x = (-1 * bxs P p q r t) * bxs P a b c x := by grind
    exact Int.eq_of_mul_eq_mul_right hne this
/-- three sides with a body tell a vector -/
theorem vec_uni {a b c u w : V3} (h : dot c (vcr a b) ≠ 0) (h1 : dot u a = dot w a) (h2 : dot u b = dot w b) (h3 : dot u c = dot w c) : u = w := by
  have e1 : ∀ t u : V3, dot t u * dot c (vcr a b) = dot u a * dot t (vcr b c) + dot u b * dot t (vcr c a) + dot u c * dot t (vcr a b) := by
    intro t u; simp only [dot, vcr]; grind
  have key : ∀ t, dot t u = dot t w := by
    intro t
    have x := e1 t u; have y := e1 t w
    rw [h1, h2, h3] at x
    exact Int.eq_of_mul_eq_mul_right h (x.trans y.symm)
  have x := key (1, 0, 0); have y := key (0, 1, 0); have z := key (0, 0, 1)
  simp [dot] at x y z
  exact v3ext x y z
/-- a symmetry takes a face to a face -/
theorem sy_face {P : Nat → V3} {m : Nat} (hm : m ≤ 14) (hD : Dis P m) {s : Nat → Nat} (hsy : sy P m s) {n : V3} {l : Int} (hF : isF P m n l) : ∃ n' l', isF P m n' l' ∧ ∀ p, isCor P m p → (fA P m n' l' (s p) ↔ fA P m n l p) := by
  have hs := F_sol hF
  obtain ⟨e, he, hdet⟩ := sy_det hm hD hs hsy
  obtain ⟨R, L, hR⟩ := F_rnd hm hD hF
  obtain ⟨⟨l3, _⟩, ex, inj, cov, _, nx, nl⟩ := id hR
  have hN := rnd_012 hD hF hR
  have c0 := cor_of hD hF (ex 0 (by omega))
  have c1 := cor_of hD hF (ex 1 (by omega))
  have c2 := cor_of hD hF (ex 2 (by omega))
  -- the three corners' side tells in or below
  have bx : ∀ a b c x, bxs P a b c x = dot (ncr P a b c) (P x) - dot (ncr P a b c) (P a) := by
    intro a b c x
    show dot (vsub (P x) (P a)) (ncr P a b c) = _
    rw [dot_comm, dot_sub]
  have np := dot_self_pos (gcd3_ne hF.1)
  have nn := gcd3_ne hF.1
  have st : 0 < swg P (R 0) (R 1) (R 2) n := nxt_strict nn (ex 0 (by omega)) (ex 2 (by omega)) (nx 0 (by omega)) (fun e => by have := inj 0 2 (by omega) (by omega) (F_sam hD hF (ex 0 (by omega)).1 (ex 2 (by omega)).1 e); omega) (fun e => by have := inj 2 1 (by omega) (by omega) (F_sam hD hF (ex 2 (by omega)).1 (ex 1 (by omega)).1 e); omega)
  have side : ∀ x, dot n n * bxs P (R 0) (R 1) (R 2) x = swg P (R 0) (R 1) (R 2) n * (dot n (P x) - l) := by
    intro x
    have pa := perp_par (n := n) (a := vsub (P (R 1)) (P (R 0))) (b := vsub (P (R 2)) (P (R 0))) (by rw [dot_sub, (ex 0 (by omega)).1.2, (ex 1 (by omega)).1.2]; omega) (by rw [dot_sub, (ex 0 (by omega)).1.2, (ex 2 (by omega)).1.2]; omega)
    have pa' : vcr n (ncr P (R 0) (R 1) (R 2)) = vO := pa
    have key : ∀ u : V3, dot n n * dot (ncr P (R 0) (R 1) (R 2)) u = dot n (ncr P (R 0) (R 1) (R 2)) * dot n u := by
      intro u
      rw [vO_iff] at pa'; simp only [vcr] at pa'; obtain ⟨a1, a2, a3⟩ := pa'
      generalize ncr P (R 0) (R 1) (R 2) = N at *
      simp only [dot]; grind
    have k1 := key (P x); have k2 := key (P (R 0))
    rw [(ex 0 (by omega)).1.2] at k2
    rw [bx, swg_ncr]; grind
  have sgn : ∀ x, isCor P m x → bxs P (R 0) (R 1) (R 2) x ≤ 0 ∧ (bxs P (R 0) (R 1) (R 2) x = 0 ↔ fA P m n l x) := by
    intro x hx
    have a := side x
    have b := hF.2.1 x hx.1
    constructor
    · rcases Int.lt_or_le 0 (bxs P (R 0) (R 1) (R 2) x) with u | u
      · have := Int.mul_pos np u
        have := Int.mul_nonpos_of_nonneg_of_nonpos (Int.le_of_lt st) (show dot n (P x) - l ≤ 0 by omega)
        omega
      · exact u
    · constructor
      · intro h
        rw [h, Int.mul_zero] at a
        have := (Int.mul_eq_zero.1 a.symm).resolve_left (by omega)
        exact ⟨hx.1, by omega⟩
      · intro h
        rw [h.2, Int.sub_self, Int.mul_zero] at a
        exact (Int.mul_eq_zero.1 a).resolve_left (by omega)
  -- the images' plane, outward
  have img : ∀ x, isCor P m x → dot (ncr P (s (R 0)) (s (R 1)) (s (R 2))) (P (s x)) - dot (ncr P (s (R 0)) (s (R 1)) (s (R 2))) (P (s (R 0))) = e * bxs P (R 0) (R 1) (R 2) x := by
    intro x hx
    rw [← bx]; exact hdet _ _ _ _ c0 c1 c2 hx
  obtain ⟨k, k1, k2⟩ := hF.2.2.1
  -- a corner below
  have hbelow : ∃ x, isCor P m x ∧ bxs P (R 0) (R 1) (R 2) x < 0 := by
    obtain ⟨w, hw, w2⟩ := max_cor hm hD hs (vneg n)
    have := w2 k k1
    rw [dot_neg, dot_neg] at this
    refine ⟨w, hw, ?_⟩
    have a := sgn w hw
    rcases Int.lt_or_eq_of_le a.1 with u | u
    · exact u
    · have := (a.2.1 u).2; omega
  obtain ⟨x0, hx0, hx0'⟩ := hbelow
  generalize hN' : vlc e (ncr P (s (R 0)) (s (R 1)) (s (R 2))) 0 n = N'
  have dN : ∀ y, isCor P m y → dot N' (P (s y)) - dot N' (P (s (R 0))) = bxs P (R 0) (R 1) (R 2) y := by
    intro y hy
    have := img y hy
    rw [← hN', dot_lc, dot_lc]
    rcases he with rfl | rfl <;> grind
  have N0 : N' ≠ vO := by
    intro h
    have := dN x0 hx0
    rw [h] at this
    simp [dot, vO] at this; omega
  have supc : ∀ y, isCor P m y → dot N' (P y) ≤ dot N' (P (s (R 0))) := by
    intro y hy
    obtain ⟨p, hp, rfl⟩ := sy_surj hD hsy hy
    have := dN p hp; have := (sgn p hp).1; omega
  have sup : ∀ j, j < m → dot N' (P j) ≤ dot N' (P (s (R 0))) := by
    intro j hj
    obtain ⟨w, hw, w2⟩ := max_cor hm hD hs N'
    have := w2 j hj; have := supc w hw; omega
  have d1 := dN _ c1
  have d2 := dN _ c2
  rw [(sgn _ c1).2.2 (ex 1 (by omega)).1] at d1
  rw [(sgn _ c2).2.2 (ex 2 (by omega)).1] at d2
  have hNs : ncr P (s (R 0)) (s (R 1)) (s (R 2)) ≠ vO := by
    intro h
    have := img x0 hx0
    rw [h] at this
    simp [dot, vO] at this
    rcases he with rfl | rfl <;> omega
  have f := F_mk N0 (hsy.1 _ c0).1 (hsy.1 _ c1).1 (hsy.1 _ c2).1 sup (by omega) (by omega) hNs ⟨s x0, (hsy.1 _ hx0).1, by have := dN x0 hx0; omega⟩
  refine ⟨_, _, f, fun p hp => ?_⟩
  rw [← (sgn p hp).2]
  constructor
  · intro h
    have := (prim_eq0 N0).1 h.2
    have := dN p hp; omega
  · intro h
    refine ⟨(hsy.1 p hp).1, (prim_eq0 N0).2 ?_⟩
    have := dN p hp; omega
/-- and an edge to an edge -/
theorem sy_edge {P : Nat → V3} {m : Nat} (hm : m ≤ 14) (hD : Dis P m) {s : Nat → Nat} (hsy : sy P m s) {p q : Nat} (h : isEd P m p q) : isEd P m (s p) (s q) := by
  obtain ⟨hne, cp, cq, n1, l1, n2, l2, h1, h2, hn, p1, q1, p2, q2⟩ := h
  obtain ⟨n1', l1', F1, e1⟩ := sy_face hm hD hsy h1
  obtain ⟨n2', l2', F2, e2⟩ := sy_face hm hD hsy h2
  refine ⟨fun e => hne (sy_inj hD hsy cp cq e), hsy.1 p cp, hsy.1 q cq, n1', l1', n2', l2', F1, F2, fun e => hn ?_, (e1 p cp).2 p1, (e1 q cq).2 q1, (e2 p cp).2 p2, (e2 q cq).2 q2⟩
  -- the same image: the same corners, so the same face
  subst e
  have el := isF_lev F1 F2
  subst el
  obtain ⟨R, L, hR⟩ := F_rnd hm hD h1
  obtain ⟨⟨l3, _⟩, ex, _⟩ := id hR
  have on : ∀ k, k < L → fA P m n2 l2 (R k) := fun k hk => (e2 _ (cor_of hD h1 (ex k hk))).1 ((e1 _ (cor_of hD h1 (ex k hk))).2 (ex k hk).1)
  exact (F_uni h1 h2 (rnd_012 hD h1 hR) (ex 0 (by omega)).1.2 (ex 1 (by omega)).1.2 (ex 2 (by omega)).1.2 (on 0 (by omega)).2 (on 1 (by omega)).2 (on 2 (by omega)).2).1
