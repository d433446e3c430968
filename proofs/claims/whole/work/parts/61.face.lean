/-- a face: its primitive normal outward, and its level -/
def isF (P : Nat → V3) (m : Nat) (n : V3) (l : Int) : Prop :=
  gcd3 n = 1 ∧ (∀ k, k < m → dot n (P k) ≤ l) ∧ (∃ k, k < m ∧ dot n (P k) < l) ∧ ∃ p q r, p < m ∧ q < m ∧ r < m ∧ dot n (P p) = l ∧ dot n (P q) = l ∧ dot n (P r) = l ∧ ncr P p q r ≠ vO
/-- not all in one plane -/
def Sol (P : Nat → V3) (m : Nat) : Prop := ∃ p q r s, p < m ∧ q < m ∧ r < m ∧ s < m ∧ dot (ncr P p q r) (vsub (P s) (P p)) ≠ 0
/-- no two points are one -/
def Dis (P : Nat → V3) (m : Nat) : Prop := ∀ j k, j < m → k < m → P j = P k → j = k
theorem par_dot {n N e : V3} (hn : n ≠ vO) (h : vcr n N = vO) (he : dot n e = 0) : dot N e = 0 := by
  rw [vO_iff] at h
  have hn' : ¬ (n.1 = 0 ∧ n.2.1 = 0 ∧ n.2.2 = 0) := fun e => hn ((vO_iff n).2 e)
  simp only [vcr] at h
  simp only [dot] at he ⊢
  obtain ⟨a1, a2, a3⟩ := h
  have k1 : n.1 * (N.1 * e.1 + N.2.1 * e.2.1 + N.2.2 * e.2.2) = 0 := by grind
  have k2 : n.2.1 * (N.1 * e.1 + N.2.1 * e.2.1 + N.2.2 * e.2.2) = 0 := by grind
  have k3 : n.2.2 * (N.1 * e.1 + N.2.1 * e.2.1 + N.2.2 * e.2.2) = 0 := by grind
  rcases Int.mul_eq_zero.1 k1 with h1 | h1
  · rcases Int.mul_eq_zero.1 k2 with h2 | h2
    · rcases Int.mul_eq_zero.1 k3 with h3 | h3
      · exact absurd ⟨h1, h2, h3⟩ hn'
      · exact h3
    · exact h2
  · exact h1
theorem sol_np {P : Nat → V3} {m : Nat} (hs : Sol P m) {n : V3} (hn : n ≠ vO) (l : Int) : ∃ k, k < m ∧ dot n (P k) ≠ l := by
  obtain ⟨p, q, r, s, hp, hq, hr, hs, hd⟩ := hs
  by_cases h1 : dot n (P p) = l
  · by_cases h2 : dot n (P q) = l
    · by_cases h3 : dot n (P r) = l
      · by_cases h4 : dot n (P s) = l
        · have a := perp_par (n := n) (a := vsub (P q) (P p)) (b := vsub (P r) (P p)) (by rw [dot_sub]; omega) (by rw [dot_sub]; omega)
          exact absurd (par_dot hn a (by rw [dot_sub]; omega)) hd
        · exact ⟨s, hs, h4⟩
      · exact ⟨r, hr, h3⟩
    · exact ⟨q, hq, h2⟩
  · exact ⟨p, hp, h1⟩
/-- two faces with three points in common that are no line are one -/
theorem F_uni {P : Nat → V3} {m : Nat} {n n' : V3} {l l' : Int} (h : isF P m n l) (h' : isF P m n' l') {p q r : Nat} (hN : ncr P p q r ≠ vO)
    (p1 : dot n (P p) = l) (q1 : dot n (P q) = l) (r1 : dot n (P r) = l) (p2 : dot n' (P p) = l') (q2 : dot n' (P q) = l') (r2 : dot n' (P r) = l') : n = n' ∧ l = l' := by
  have a := perp_par (n := n) (a := vsub (P q) (P p)) (b := vsub (P r) (P p)) (by rw [dot_sub]; omega) (by rw [dot_sub]; omega)
  have b := perp_par (n := n') (a := vsub (P q) (P p)) (b := vsub (P r) (P p)) (by rw [dot_sub]; omega) (by rw [dot_sub]; omega)
  have c : vcr n n' = vO := par_tr hN a b
  have e : n = n' := by
    by_cases hd : 0 ≤ dot n n'
    · exact par_eq c h.1 h'.1 hd
    · exfalso
      obtain ⟨g, s, ⟨k, k1, k2⟩, _⟩ := h
      have s' := h'.2.1 k k1
      have hn := gcd3_ne h'.1
      -- n' along n, the other way: point k stands above
      have d1 : dot n' n' = dot n n := (gcd3_abs c g h'.1).symm
      have l2 := lagr n n'
      rw [c, d1] at l2
      have l3 : dot n n' * dot n n' = dot n n * dot n n := by simp only [vO] at l2; simp only [dot] at l2 ⊢; omega
      have l4 : dot n n' = - dot n n := by
        have q : (dot n n' - dot n n) * (dot n n' + dot n n) = 0 := by grind
        have := dot_self_nonneg n
        rcases Int.mul_eq_zero.1 q with q | q <;> omega
      have l5 : dot (vsub n (vneg n')) (vsub n (vneg n')) = 0 := by
        have : dot (vsub n (vneg n')) (vsub n (vneg n')) = dot n n + 2 * dot n n' + dot n' n' := by simp only [dot, vsub, vneg]; grind
        omega
      have l6 := (vO_iff _).1 (dot_self_zero l5)
      simp only [vsub, vneg] at l6
      have l7 : ∀ u, dot n' u = - dot n u := by
        intro u; simp only [dot]
        have e1 : n'.1 = -n.1 := by omega
        have e2 : n'.2.1 = -n.2.1 := by omega
        have e3 : n'.2.2 = -n.2.2 := by omega
        rw [e1, e2, e3]; grind
      rw [l7] at s'
      rw [l7] at p2
      omega
  subst e
  exact ⟨rfl, by omega⟩
def vlc (a : Int) (u : V3) (b : Int) (v : V3) : V3 := (a * u.1 + b * v.1, a * u.2.1 + b * v.2.1, a * u.2.2 + b * v.2.2)
theorem dot_lc (a b : Int) (u v w : V3) : dot (vlc a u b v) w = a * dot u w + b * dot v w := by simp only [dot, vlc]; grind
theorem dot_lcr (a b : Int) (u v w : V3) : dot w (vlc a u b v) = a * dot w u + b * dot w v := by simp only [dot, vlc]; grind
theorem lc_ne {c n : V3} {a b : Int} (h : vcr c n ≠ vO) (ha : a ≠ 0) : vlc a c b n ≠ vO := by
  intro e
  apply h
  rw [vO_iff] at e ⊢
  simp only [vlc] at e
  simp only [vcr]
  obtain ⟨e1, e2, e3⟩ := e
  have k : ∀ t : Int, a * t = 0 → t = 0 := fun t ht => (Int.mul_eq_zero.1 ht).resolve_left ha
  refine ⟨k _ ?_, k _ ?_, k _ ?_⟩ <;> grind
/-- a supporting plane turned about a line in it until it meets another point -/
theorem rotS {P : Nat → V3} {m : Nat} (hs : Sol P m) {n c : V3} {v : Nat} (hv : v < m) (hn : ∀ k, k < m → dot n (P k) ≤ dot n (P v)) (hc : vcr c n ≠ vO)
    (hx : ∀ k, k < m → dot n (P k) = dot n (P v) → dot c (P k) ≤ dot c (P v)) :
    ∃ r, r < m ∧ dot n (P r) < dot n (P v) ∧ ∃ n', n' = vlc (dot n (P v) - dot n (P r)) c (dot c (P r) - dot c (P v)) n ∧ n' ≠ vO ∧ (∀ k, k < m → dot n' (P k) ≤ dot n' (P v)) ∧ dot n' (P r) = dot n' (P v) ∧ (∀ k, dot n (P k) = dot n (P v) → dot c (P k) = dot c (P v) → dot n' (P k) = dot n' (P v)) ∧ ∃ k, k < m ∧ dot n' (P k) < dot n' (P v) := by
  have hn0 : n ≠ vO := by
    rintro rfl; apply hc; simp [vcr, vO]
  obtain ⟨k0, h0, h0'⟩ := sol_np hs hn0 (dot n (P v))
  obtain ⟨r, r1, _, r3, r4⟩ := rot (fun k => dot c (P v) - dot c (P k)) (fun k => dot n (P v) - dot n (P k)) (fun _ => True) m (fun k hk _ => by have := hn k hk; omega) (fun k hk _ e => by have := hx k hk (by omega); omega) ⟨k0, h0, trivial, by have := hn k0 h0; omega⟩
  have hne : vlc (dot n (P v) - dot n (P r)) c (dot c (P r) - dot c (P v)) n ≠ vO := lc_ne hc (by omega)
  refine ⟨r, r1, by omega, _, rfl, hne, fun k hk => ?_, ?_, fun k e1 e2 => ?_, ?_⟩
  · have := r4 k hk trivial
    rw [dot_lc, dot_lc]; grind
  · rw [dot_lc, dot_lc]; grind
  · rw [dot_lc, dot_lc, e1, e2]
  · obtain ⟨k, k1, k2⟩ := sol_np hs hne (dot (vlc (dot n (P v) - dot n (P r)) c (dot c (P r) - dot c (P v)) n) (P v))
    refine ⟨k, k1, ?_⟩
    have := r4 k k1 trivial
    have h : dot (vlc (dot n (P v) - dot n (P r)) c (dot c (P r) - dot c (P v)) n) (P k) ≤ dot (vlc (dot n (P v) - dot n (P r)) c (dot c (P r) - dot c (P v)) n) (P v) := by rw [dot_lc, dot_lc]; grind
    omega
theorem dot_prim (u w : V3) (h : u ≠ vO) : dot u w = (gcd3 u : Int) * dot (prim u) w := by
  obtain ⟨a, b, _⟩ := prim_mul u h
  have c1 : u.1 = (gcd3 u : Int) * (prim u).1 := congrArg (fun t : V3 => t.1) b
  have c2 : u.2.1 = (gcd3 u : Int) * (prim u).2.1 := congrArg (fun t : V3 => t.2.1) b
  have c3 : u.2.2 = (gcd3 u : Int) * (prim u).2.2 := congrArg (fun t : V3 => t.2.2) b
  simp only [dot]
  rw [c1, c2, c3]; grind
/-- a supporting plane with three points of no line is a face's -/
theorem F_mk {P : Nat → V3} {m : Nat} {n : V3} {v q r : Nat} (hn : n ≠ vO) (hv : v < m) (hq : q < m) (hr : r < m) (h : ∀ k, k < m → dot n (P k) ≤ dot n (P v)) (eq : dot n (P q) = dot n (P v)) (er : dot n (P r) = dot n (P v)) (hN : ncr P v q r ≠ vO) (hb : ∃ k, k < m ∧ dot n (P k) < dot n (P v)) : isF P m (prim n) (dot (prim n) (P v)) := by
  obtain ⟨g, _, g1⟩ := prim_mul n hn
  have g' : (0 : Int) < (gcd3 n : Int) := by omega
  have ln : ∀ u w : V3, dot n u ≤ dot n w → dot (prim n) u ≤ dot (prim n) w := by
    intro u w e; rw [dot_prim n u hn, dot_prim n w hn] at e; exact Int.le_of_mul_le_mul_left e g'
  have ll : ∀ u w : V3, dot n u < dot n w → dot (prim n) u < dot (prim n) w := by
    intro u w e; rw [dot_prim n u hn, dot_prim n w hn] at e; exact Int.lt_of_mul_lt_mul_left e (by omega)
  refine ⟨g1, fun k hk => ln _ _ (h k hk), ?_, v, q, r, hv, hq, hr, rfl, ?_, ?_, hN⟩
  · obtain ⟨k, k1, k2⟩ := hb; exact ⟨k, k1, ll _ _ k2⟩
  · have a := ln (P q) (P v) (by omega); have b := ln (P v) (P q) (by omega); omega
  · have a := ln (P r) (P v) (by omega); have b := ln (P v) (P r) (by omega); omega
theorem prim_eq0 {n u w : V3} (hn : n ≠ vO) : dot (prim n) u = dot (prim n) w ↔ dot n u = dot n w := by
  obtain ⟨g, _, g1⟩ := prim_mul n hn
  have g' : (0 : Int) < (gcd3 n : Int) := by omega
  rw [dot_prim n u hn, dot_prim n w hn]
  constructor
  · intro e; rw [e]
  · intro e; exact Int.eq_of_mul_eq_mul_left (by omega) e
theorem cr_ne {n e : V3} (hn : n ≠ vO) (he : e ≠ vO) (h : dot n e = 0) : vcr n e ≠ vO := by
  intro k
  have l := lagr n e
  rw [k, h] at l
  have a := dot_self_pos hn; have b := dot_self_pos he
  have c := Int.mul_pos a b
  simp only [vO] at l
  simp only [dot] at l c
  omega
theorem dot_vcr_l (u v : V3) : dot u (vcr u v) = 0 := by simp only [dot, vcr]; grind
theorem dot_vcr_r (u v : V3) : dot v (vcr u v) = 0 := by simp only [dot, vcr]; grind
theorem vcr_anti (u v : V3) : vcr u v = vneg (vcr v u) := by simp only [vcr, vneg, Prod.mk.injEq]; grind
theorem vneg_O {u : V3} : vneg u = vO ↔ u = vO := by
  rw [vO_iff, vO_iff]; simp only [vneg]; omega
theorem vcr_O {u v : V3} : vcr u v = vO ↔ vcr v u = vO := by rw [vcr_anti, vneg_O]
/-- a vector across n -/
theorem ex_perp {n : V3} (hn : n ≠ vO) : ∃ e, e ≠ vO ∧ dot n e = 0 := by
  by_cases h : n.1 = 0 ∧ n.2.1 = 0
  · refine ⟨(1, 0, 0), by simp [vO], ?_⟩
    simp [dot, h.1]
  · refine ⟨(n.2.1, -n.1, 0), ?_, ?_⟩
    · intro e
      rw [vO_iff] at e
      simp only at e
      omega
    · simp only [dot]; grind
/-- what a supporting plane touches lies in a face -/
theorem F_ex {P : Nat → V3} {m : Nat} (hs : Sol P m) {n : V3} {v : Nat} (hn : n ≠ vO) (hv : v < m) (h : ∀ k, k < m → dot n (P k) ≤ dot n (P v)) :
    ∃ n' l', isF P m n' l' ∧ ∀ k, k < m → dot n (P k) = dot n (P v) → dot n' (P k) = l' := by
  -- with a second point in the plane
  have two : ∀ n : V3, n ≠ vO → (∀ k, k < m → dot n (P k) ≤ dot n (P v)) → (∃ w, w < m ∧ dot n (P w) = dot n (P v) ∧ vsub (P w) (P v) ≠ vO) → ∃ n' l', isF P m n' l' ∧ ∀ k, k < m → dot n (P k) = dot n (P v) → dot n' (P k) = l' := by
    intro n hn h ⟨w, hw, w1, w2⟩
    have hpe : dot n (vsub (P w) (P v)) = 0 := by rw [dot_sub]; omega
    by_cases hk : ∃ k, k < m ∧ dot n (P k) = dot n (P v) ∧ ncr P v w k ≠ vO
    · obtain ⟨k, k1, k2, k3⟩ := hk
      obtain ⟨j, j1, j2⟩ := sol_np hs hn (dot n (P v))
      refine ⟨_, _, F_mk hn hv hw k1 h w1 k2 k3 ⟨j, j1, by have := h j j1; omega⟩, fun i hi e => (prim_eq0 hn).2 e⟩
    · have hc : ∀ k, k < m → dot n (P k) = dot n (P v) → dot (vcr n (vsub (P w) (P v))) (P k) = dot (vcr n (vsub (P w) (P v))) (P v) := by
        intro k hk' e
        have a : ncr P v w k = vO := by
          apply Classical.byContradiction; intro e2; exact hk ⟨k, hk', e, e2⟩
        have b := par_dot (e := vcr n (vsub (P w) (P v))) w2 a (by exact dot_vcr_r ..)
        rw [dot_comm, dot_sub] at b; omega
      obtain ⟨r, r1, r2, n', hn', n1, n2, n3, n4, n5⟩ := rotS hs hv h (c := vcr n (vsub (P w) (P v))) (by
        intro e
        have e2 := cr_ne hn w2 hpe
        exact cr_ne e2 hn (by rw [dot_comm]; exact dot_vcr_l ..) e) (fun k hk' e => by have := hc k hk' e; omega)
      refine ⟨_, _, F_mk n1 hv hw r1 n2 (n4 w w1 (hc w hw w1)) n3 ?_ n5, fun i hi e => (prim_eq0 n1).2 (n4 i e (hc i hi e))⟩
      intro e
      have b := par_dot (e := n) w2 e (by rw [dot_comm]; exact hpe)
      rw [dot_comm, dot_sub] at b; omega
  by_cases hw : ∃ w, w < m ∧ dot n (P w) = dot n (P v) ∧ vsub (P w) (P v) ≠ vO
  · exact two n hn h hw
  · have hz : ∀ k, k < m → dot n (P k) = dot n (P v) → P k = P v := by
      intro k hk e
      have a : vsub (P k) (P v) = vO := by
        apply Classical.byContradiction; intro e2; exact hw ⟨k, hk, e, e2⟩
      rw [vO_iff] at a; simp only [vsub] at a
      exact v3ext (by omega) (by omega) (by omega)
    obtain ⟨c, c1, c2⟩ := ex_perp hn
    obtain ⟨r, r1, r2, n', hn', n1, n2, n3, n4, n5⟩ := rotS hs hv h (c := c) (by
      intro e; exact cr_ne c1 hn (by rw [dot_comm]; exact c2) e) (fun k hk' e => by rw [hz k hk' e]; omega)
    obtain ⟨a, l, b, d⟩ := two n' n1 n2 ⟨r, r1, n3, by
      intro e
      rw [vO_iff] at e; simp only [vsub] at e
      have : P r = P v := v3ext (by omega) (by omega) (by omega)
      rw [this] at r2; omega⟩
    refine ⟨a, l, b, fun k hk e => d k hk (n4 k e ?_)⟩
    rw [hz k hk e]
theorem F_sol {P : Nat → V3} {m : Nat} {n : V3} {l : Int} (h : isF P m n l) : Sol P m := by
  obtain ⟨g, s, ⟨k, k1, k2⟩, p, q, r, hp, hq, hr, ep, eq, er, hN⟩ := h
  refine ⟨p, q, r, k, hp, hq, hr, k1, ?_⟩
  intro e
  have a := perp_par (n := n) (a := vsub (P q) (P p)) (b := vsub (P r) (P p)) (by rw [dot_sub]; omega) (by rw [dot_sub]; omega)
  have b := par_dot hN (vcr_O.1 a) e
  rw [dot_sub] at b; omega
