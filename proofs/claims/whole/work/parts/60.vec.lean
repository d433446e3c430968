/-- three points' normal -/
def ncr (P : Nat → V3) (p q r : Nat) : V3 := vcr (vsub (P q) (P p)) (vsub (P r) (P p))
def vO : V3 := (0, 0, 0)
theorem v3ext {u v : V3} (h1 : u.1 = v.1) (h2 : u.2.1 = v.2.1) (h3 : u.2.2 = v.2.2) : u = v := Prod.ext h1 (Prod.ext h2 h3)
theorem vO_iff (u : V3) : u = vO ↔ u.1 = 0 ∧ u.2.1 = 0 ∧ u.2.2 = 0 := by
  constructor
  · rintro rfl; exact ⟨rfl, rfl, rfl⟩
  · rintro ⟨a, b, c⟩; exact v3ext a b c
theorem sq_nonneg' (x : Int) : 0 ≤ x * x := by
  by_cases h : 0 ≤ x
  · exact Int.mul_nonneg h h
  · have := Int.mul_nonneg_of_nonpos_of_nonpos (a := x) (b := x) (by omega) (by omega); omega
theorem sq_pos' {x : Int} (h : x ≠ 0) : 0 < x * x := by
  have := sq_nonneg' x
  have h2 : x * x ≠ 0 := by intro e; exact h ((Int.mul_eq_zero.1 e).elim id id)
  omega
theorem dot_self_nonneg (u : V3) : 0 ≤ dot u u := by
  have a := sq_nonneg' u.1; have b := sq_nonneg' u.2.1; have c := sq_nonneg' u.2.2
  simp only [dot]; omega
theorem dot_self_zero {u : V3} (h : dot u u = 0) : u = vO := by
  have a := sq_nonneg' u.1; have b := sq_nonneg' u.2.1; have c := sq_nonneg' u.2.2
  simp only [dot] at h
  refine (vO_iff u).2 ⟨?_, ?_, ?_⟩
  · have : u.1 * u.1 = 0 := by omega
    exact (Int.mul_eq_zero.1 this).elim id id
  · have : u.2.1 * u.2.1 = 0 := by omega
    exact (Int.mul_eq_zero.1 this).elim id id
  · have : u.2.2 * u.2.2 = 0 := by omega
    exact (Int.mul_eq_zero.1 this).elim id id
theorem dot_self_pos {u : V3} (h : u ≠ vO) : 0 < dot u u := by
  have a := dot_self_nonneg u
  have : dot u u ≠ 0 := fun e => h (dot_self_zero e)
  omega
theorem dot_comm (u v : V3) : dot u v = dot v u := by simp only [dot]; grind
theorem dot_sub (n u v : V3) : dot n (vsub u v) = dot n u - dot n v := by simp only [dot, vsub]; grind
theorem dot_sub_l (n u v : V3) : dot (vsub u v) n = dot u n - dot v n := by simp only [dot, vsub]; grind
theorem vcr_self (u : V3) : vcr u u = vO := by simp only [vcr, vO, Prod.mk.injEq]; grind
theorem bac (n a b : V3) : vcr n (vcr a b) = (a.1 * dot n b - b.1 * dot n a, a.2.1 * dot n b - b.2.1 * dot n a, a.2.2 * dot n b - b.2.2 * dot n a) := by
  simp only [dot, vcr, Prod.mk.injEq]; grind
theorem lagr (u v : V3) : dot (vcr u v) (vcr u v) = dot u u * dot v v - dot u v * dot u v := by simp only [dot, vcr]; grind
/-- two vectors along a third -/
theorem par_tr {n n' N : V3} (hN : N ≠ vO) (h : vcr n N = vO) (h' : vcr n' N = vO) : vcr n n' = vO := by
  rw [vO_iff] at h h' ⊢
  have hN' : ¬ (N.1 = 0 ∧ N.2.1 = 0 ∧ N.2.2 = 0) := fun e => hN ((vO_iff N).2 e)
  simp only [vcr] at h h' ⊢
  obtain ⟨a1, a2, a3⟩ := h
  obtain ⟨b1, b2, b3⟩ := h'
  have key : ∀ t : Int, t * N.1 = 0 → t * N.2.1 = 0 → t * N.2.2 = 0 → t = 0 := by
    intro t h1 h2 h3
    rcases Int.mul_eq_zero.1 h1 with h | h
    · exact h
    rcases Int.mul_eq_zero.1 h2 with h2 | h2
    · exact h2
    rcases Int.mul_eq_zero.1 h3 with h3 | h3
    · exact h3
    exact absurd ⟨h, h2, h3⟩ hN'
  refine ⟨?_, ?_, ?_⟩
  · apply key <;> grind
  · apply key <;> grind
  · apply key <;> grind
/-- across both of two, so along their product -/
theorem perp_par {n a b : V3} (ha : dot n a = 0) (hb : dot n b = 0) : vcr n (vcr a b) = vO := by
  rw [bac, ha, hb]; simp [vO]
theorem dvd3 {x x' : Int} {n : V3} (g : gcd3 n = 1) (h1 : x ∣ x' * n.1) (h2 : x ∣ x' * n.2.1) (h3 : x ∣ x' * n.2.2) : x ∣ x' := by
  have a := Int.dvd_coe_gcd h1 h2
  rw [Int.gcd_mul_left] at a
  have b : x ∣ (x'.natAbs : Int) * n.2.2 := by
    rcases Int.natAbs_eq x' with e | e
    · rw [← e]; exact h3
    · have e2 : (x'.natAbs : Int) = -x' := by omega
      rw [e2, Int.neg_mul]; exact Int.dvd_neg.2 h3
  rw [Int.natCast_mul] at a
  have c := Int.dvd_coe_gcd a b
  rw [Int.gcd_mul_left] at c
  have g' : Int.gcd (↑(Int.gcd n.1 n.2.1)) n.2.2 = 1 := g
  rw [g', Nat.mul_one, Int.natAbs_natCast] at c
  exact Int.dvd_natAbs.1 c
theorem gcd3_abs {n n' : V3} (h : vcr n n' = vO) (g : gcd3 n = 1) (g' : gcd3 n' = 1) : dot n n = dot n' n' := by
  rw [vO_iff] at h
  simp only [vcr] at h
  obtain ⟨a1, a2, a3⟩ := h
  have key : ∀ x x' : Int, x' * n.1 = x * n'.1 → x' * n.2.1 = x * n'.2.1 → x' * n.2.2 = x * n'.2.2 → x * x = x' * x' := by
    intro x x' h1 h2 h3
    have e1 : x ∣ x' := dvd3 g ⟨_, h1⟩ ⟨_, h2⟩ ⟨_, h3⟩
    have e2 : x' ∣ x := dvd3 g' ⟨_, h1.symm⟩ ⟨_, h2.symm⟩ ⟨_, h3.symm⟩
    have e3 := Nat.dvd_antisymm (Int.natAbs_dvd_natAbs.2 e1) (Int.natAbs_dvd_natAbs.2 e2)
    have e4 : x = x' ∨ x = -x' := by omega
    rcases e4 with e | e <;> subst e <;> grind
  have k1 := key n.1 n'.1 (by grind) (by grind) (by grind)
  have k2 := key n.2.1 n'.2.1 (by grind) (by grind) (by grind)
  have k3 := key n.2.2 n'.2.2 (by grind) (by grind) (by grind)
  simp only [dot]; omega
theorem par_eq {n n' : V3} (h : vcr n n' = vO) (g : gcd3 n = 1) (g' : gcd3 n' = 1) (hp : 0 ≤ dot n n') : n = n' := by
  have e := gcd3_abs h g g'
  have l := lagr n n'
  rw [h, ← e] at l
  have l2 : dot n n' * dot n n' = dot n n * dot n n := by simp only [vO] at l; simp only [dot] at l ⊢; omega
  have l3 : dot n n' = dot n n := by
    have q : (dot n n' - dot n n) * (dot n n' + dot n n) = 0 := by grind
    have := dot_self_nonneg n
    rcases Int.mul_eq_zero.1 q with q | q <;> omega
  have l4 : dot (vsub n n') (vsub n n') = 0 := by
    have : dot (vsub n n') (vsub n n') = dot n n - 2 * dot n n' + dot n' n' := by simp only [dot, vsub]; grind
    omega
  have l5 := dot_self_zero l4
  rw [vO_iff] at l5
  simp only [vsub] at l5
  exact v3ext (by omega) (by omega) (by omega)
theorem gcd3_ne {n : V3} (g : gcd3 n = 1) : n ≠ vO := by
  rintro rfl; simp [gcd3, vO] at g
/-- a vector is its primitive one, so many times -/
theorem prim_mul (u : V3) (h : u ≠ vO) : 0 < gcd3 u ∧ u = ((gcd3 u : Int) * (prim u).1, (gcd3 u : Int) * (prim u).2.1, (gcd3 u : Int) * (prim u).2.2) ∧ gcd3 (prim u) = 1 := by
  have d2 : (gcd3 u : Int) ∣ u.2.2 := Int.gcd_dvd_right ..
  have d0 : (gcd3 u : Int) ∣ (Int.gcd u.1 u.2.1 : Int) := Int.gcd_dvd_left ..
  have d1 : (gcd3 u : Int) ∣ u.1 := Int.dvd_trans d0 (Int.gcd_dvd_left ..)
  have d3 : (gcd3 u : Int) ∣ u.2.1 := Int.dvd_trans d0 (Int.gcd_dvd_right ..)
  have gp : 0 < gcd3 u := by
    rcases Nat.eq_zero_or_pos (gcd3 u) with e | e
    · rw [e] at d1 d2 d3
      exact absurd ((vO_iff u).2 ⟨Int.zero_dvd.1 d1, Int.zero_dvd.1 d3, Int.zero_dvd.1 d2⟩) h
    · exact e
  have e : u = ((gcd3 u : Int) * (prim u).1, (gcd3 u : Int) * (prim u).2.1, (gcd3 u : Int) * (prim u).2.2) := by
    refine v3ext ?_ ?_ ?_ <;> simp only [prim]
    · exact (Int.mul_tdiv_cancel' d1).symm
    · exact (Int.mul_tdiv_cancel' d3).symm
    · exact (Int.mul_tdiv_cancel' d2).symm
  refine ⟨gp, e, ?_⟩
  have k : gcd3 u = gcd3 u * gcd3 (prim u) := by
    have : gcd3 ((gcd3 u : Int) * (prim u).1, (gcd3 u : Int) * (prim u).2.1, (gcd3 u : Int) * (prim u).2.2) = gcd3 u * gcd3 (prim u) := by
      show Int.gcd (Int.gcd ((gcd3 u : Int) * (prim u).1) ((gcd3 u : Int) * (prim u).2.1) : Int) ((gcd3 u : Int) * (prim u).2.2) = gcd3 u * gcd3 (prim u)
      rw [Int.gcd_mul_left, Int.natAbs_natCast, Int.natCast_mul, Int.gcd_mul_left, Int.natAbs_natCast]; rfl
    rw [← e] at this; exact this
  exact (Nat.mul_right_cancel_iff gp).1 (by rw [Nat.one_mul, Nat.mul_comm]; exact k.symm)
/-- turning a plane until it meets a point -/
theorem rot (x y : Nat → Int) (A : Nat → Prop) (m : Nat) (hy : ∀ k, k < m → A k → 0 ≤ y k) (hx : ∀ k, k < m → A k → y k = 0 → 0 ≤ x k) (hp : ∃ k, k < m ∧ A k ∧ 0 < y k) :
    ∃ r, r < m ∧ A r ∧ 0 < y r ∧ ∀ s, s < m → A s → 0 ≤ x s * y r - x r * y s := by
  induction m with
  | zero => obtain ⟨k, h, _⟩ := hp; omega
  | succ m ih =>
    by_cases hA : A m ∧ 0 < y m
    · by_cases hq : ∃ k, k < m ∧ A k ∧ 0 < y k
      · obtain ⟨r, r1, r2, r3, r4⟩ := ih (fun k h => hy k (by omega)) (fun k h => hx k (by omega)) hq
        by_cases hc : 0 ≤ x m * y r - x r * y m
        · refine ⟨r, by omega, r2, r3, fun s hs as => ?_⟩
          by_cases e : s = m
          · subst e; exact hc
          · exact r4 s (by omega) as
        · refine ⟨m, by omega, hA.1, hA.2, fun s hs as => ?_⟩
          by_cases e : s = m
          · subst e; omega
          have h1 := r4 s (by omega) as
          have h2 := hy s hs as
          have h3 : 0 < x r * y m - x m * y r := by omega
          have h4 : (x s * y m - x m * y s) * y r = (x s * y r - x r * y s) * y m + (x r * y m - x m * y r) * y s := by grind
          have h5 := Int.mul_nonneg h1 (Int.le_of_lt hA.2)
          have h6 := Int.mul_nonneg (Int.le_of_lt h3) h2
          have h7 : 0 ≤ (x s * y m - x m * y s) * y r := by omega
          exact Int.nonneg_of_mul_nonneg_left h7 r3
      · refine ⟨m, by omega, hA.1, hA.2, fun s hs as => ?_⟩
        by_cases e : s = m
        · subst e; omega
        have h2 := hy s hs as
        have h3 : y s = 0 := by
          rcases Int.lt_or_eq_of_le h2 with h | h
          · exact absurd ⟨s, by omega, as, h⟩ hq
          · exact h.symm
        have h4 := hx s hs as h3
        rw [h3, Int.mul_zero, Int.sub_zero]
        exact Int.mul_nonneg h4 (Int.le_of_lt hA.2)
    · have hq : ∃ k, k < m ∧ A k ∧ 0 < y k := by
        obtain ⟨k, k1, k2, k3⟩ := hp
        by_cases e : k = m
        · subst e; exact absurd ⟨k2, k3⟩ hA
        · exact ⟨k, by omega, k2, k3⟩
      obtain ⟨r, r1, r2, r3, r4⟩ := ih (fun k h => hy k (by omega)) (fun k h => hx k (by omega)) hq
      refine ⟨r, by omega, r2, r3, fun s hs as => ?_⟩
      by_cases e : s = m
      · subst e
        have h2 := hy s hs as
        have h3 : y s = 0 := by
          rcases Int.lt_or_eq_of_le h2 with h | h
          · exact absurd ⟨as, h⟩ hA
          · exact h.symm
        have h4 := hx s hs as h3
        rw [h3, Int.mul_zero, Int.sub_zero]
        exact Int.mul_nonneg h4 (Int.le_of_lt r3)
      · exact r4 s (by omega) as
