/-- two points seem to be one along d -/
def sam (P : Nat → V3) (d : V3) (p q : Nat) : Prop := spr P p q d = 0
/-- v is a corner of what is seen along d -/
def expo (P : Nat → V3) (A : Nat → Prop) (d : V3) (v : Nat) : Prop := A v ∧ ∃ c, dot c d = 0 ∧ ∀ k, A k → sam P d v k ∨ dot c (P k) < dot c (P v)
theorem spr_nonneg (P : Nat → V3) (p q : Nat) (d : V3) : 0 ≤ spr P p q d := dot_self_nonneg _
theorem spr_comm (P : Nat → V3) (p q : Nat) (d : V3) : spr P p q d = spr P q p d := by
  have e : vsub (P q) (P p) = vneg (vsub (P p) (P q)) := by simp only [vsub, vneg, Prod.mk.injEq]; omega
  have t : ∀ u : V3, vcr (vneg u) d = vneg (vcr u d) := by intro u; simp only [vcr, vneg, Prod.mk.injEq]; grind
  have t2 : ∀ u : V3, dot (vneg u) (vneg u) = dot u u := by intro u; simp only [dot, vneg]; grind
  show dot _ _ = dot _ _
  rw [e, t, t2]
theorem sam_vec {P : Nat → V3} {d : V3} {p q : Nat} (h : sam P d p q) : vcr (vsub (P q) (P p)) d = vO := dot_self_zero h
theorem sam_mk {P : Nat → V3} {d : V3} {p q : Nat} (h : vcr (vsub (P q) (P p)) d = vO) : sam P d p q := by
  show dot _ _ = 0
  rw [h]; simp [dot, vO]
theorem sam_refl (P : Nat → V3) (d : V3) (p : Nat) : sam P d p p := sam_mk (by simp [vcr, vsub, vO])
theorem sam_symm {P : Nat → V3} {d : V3} {p q : Nat} (h : sam P d p q) : sam P d q p := by
  show spr P q p d = 0; rw [spr_comm]; exact h
theorem sam_trans {P : Nat → V3} {d : V3} {p q r : Nat} (h : sam P d p q) (h' : sam P d q r) : sam P d p r := by
  have a := (vO_iff _).1 (sam_vec h); have b := (vO_iff _).1 (sam_vec h')
  apply sam_mk
  rw [vO_iff]
  simp only [vcr, vsub] at a b ⊢
  obtain ⟨a1, a2, a3⟩ := a; obtain ⟨b1, b2, b3⟩ := b
  refine ⟨by grind, by grind, by grind⟩
theorem sam_dot {P : Nat → V3} {d c : V3} {p q : Nat} (hd : d ≠ vO) (hc : dot c d = 0) (h : sam P d p q) : dot c (P p) = dot c (P q) := by
  have a := sam_vec h
  have b := par_dot (e := c) hd (vcr_O.1 a) (by rw [dot_comm]; exact hc)
  rw [dot_comm, dot_sub] at b; omega
/-- the one rule of the plane -/
theorem pl1 (P : Nat → V3) {d c : V3} (hc : dot c d = 0) (v q r s : Nat) : swg P v q r d * (dot c (P s) - dot c (P v)) = swg P v s r d * (dot c (P q) - dot c (P v)) + swg P v q s d * (dot c (P r) - dot c (P v)) := by
  have t : ∀ c u v w : V3, dot d (vcr u v) * dot c w = dot d (vcr w v) * dot c u + dot d (vcr u w) * dot c v + dot w (vcr u v) * dot c d := by
    intro c u v w; simp only [dot, vcr]; grind
  have := t c (vsub (P q) (P v)) (vsub (P r) (P v)) (vsub (P s) (P v))
  rw [hc, Int.mul_zero, Int.add_zero, dot_sub, dot_sub, dot_sub] at this
  exact this
theorem swg_anti (P : Nat → V3) (p q r : Nat) (d : V3) : swg P p r q d = - swg P p q r d := by simp only [swg, dot, vcr, vsub]; grind
theorem swg_rot (P : Nat → V3) (p q r : Nat) (d : V3) : swg P q r p d = swg P p q r d := by simp only [swg, dot, vcr, vsub]; grind
theorem swg_pp (P : Nat → V3) (p q : Nat) (d : V3) : swg P p q q d = 0 := by simp only [swg, dot, vcr, vsub]; grind
theorem swg_pq (P : Nat → V3) (p q : Nat) (d : V3) : swg P p p q d = 0 := by simp only [swg, dot, vcr, vsub]; grind
theorem swg_qp (P : Nat → V3) (p q : Nat) (d : V3) : swg P p q p d = 0 := by simp only [swg, dot, vcr, vsub]; grind
theorem swg_fun (P : Nat → V3) (p q r : Nat) (d : V3) : swg P p q r d = dot (vcr d (vsub (P q) (P p))) (P r) - dot (vcr d (vsub (P q) (P p))) (P p) := by simp only [swg, dot, vcr, vsub]; grind
theorem swg_sam3 {P : Nat → V3} {d : V3} (hd : d ≠ vO) {p q r r' : Nat} (h : sam P d r r') : swg P p q r d = swg P p q r' d := by
  rw [swg_fun, swg_fun]
  have := sam_dot (c := vcr d (vsub (P q) (P p))) hd (by rw [dot_comm]; exact dot_vcr_l ..) h
  omega
theorem swg_sam2 {P : Nat → V3} {d : V3} (hd : d ≠ vO) {p q q' r : Nat} (h : sam P d q q') : swg P p q r d = swg P p q' r d := by
  have := swg_sam3 hd (p := p) (q := r) h
  rw [swg_anti P p r q, swg_anti P p r q', ]; omega
theorem swg_sam1 {P : Nat → V3} {d : V3} (hd : d ≠ vO) {p p' q r : Nat} (h : sam P d p p') : swg P p q r d = swg P p' q r d := by
  rw [← swg_rot P p q r, ← swg_rot P p' q r]; exact swg_sam3 hd h
/-- along one line through v -/
theorem col1 {P : Nat → V3} {d c : V3} (hd : d ≠ vO) (hc : dot c d = 0) {v q k : Nat} (h : swg P v q k d = 0) :
    spr P v q d * (dot c (P k) - dot c (P v)) = dot (vcr (vsub (P q) (P v)) d) (vcr (vsub (P k) (P v)) d) * (dot c (P q) - dot c (P v)) := by
  have hp : vcr (vcr (vsub (P q) (P v)) d) (vcr (vsub (P k) (P v)) d) = vO := by
    have t : ∀ u w : V3, vcr (vcr u d) (vcr w d) = (dot d (vcr u w) * d.1, dot d (vcr u w) * d.2.1, dot d (vcr u w) * d.2.2) := by
      intro u w; simp only [dot, vcr, Prod.mk.injEq]; grind
    rw [t]
    have h' : dot d (vcr (vsub (P q) (P v)) (vsub (P k) (P v))) = 0 := h
    rw [h']; simp [vO]
  have gw : ∀ w : V3, dot (vcr d c) (vcr w d) = - (dot d d * dot c w) := by
    intro w
    have : dot (vcr d c) (vcr w d) = dot d w * dot c d - dot d d * dot c w := by simp only [dot, vcr]; grind
    rw [this, hc]; omega
  have key : ∀ G U W : V3, vcr U W = vO → dot U U * dot G W = dot U W * dot G U := by
    intro G U W e
    rw [vO_iff] at e; simp only [vcr] at e; obtain ⟨e1, e2, e3⟩ := e
    simp only [dot]; grind
  have kk := key (vcr d c) _ _ hp
  rw [gw, gw, dot_sub, dot_sub] at kk
  have dp := dot_self_pos hd
  have : dot d d * (spr P v q d * (dot c (P k) - dot c (P v))) = dot d d * (dot (vcr (vsub (P q) (P v)) d) (vcr (vsub (P k) (P v)) d) * (dot c (P q) - dot c (P v))) := by
    show dot d d * (dot (vcr (vsub (P q) (P v)) d) (vcr (vsub (P q) (P v)) d) * (dot c (P k) - dot c (P v))) = _
    grind
  exact Int.eq_of_mul_eq_mul_left (by omega) this
/-- nearer on the same ray is less down -/
theorem col_cmp {P : Nat → V3} {d c : V3} (hd : d ≠ vO) (hc : dot c d = 0) {v q k : Nat} (h : swg P v q k d = 0) (hq : dot c (P q) < dot c (P v)) (hk : dot c (P k) < dot c (P v)) (hs : spr P v k d ≤ spr P v q d) :
    dot c (P q) ≤ dot c (P k) ∧ (dot c (P q) = dot c (P k) → sam P d k q) := by
  have a := col1 hd hc h
  have U0 : 0 < spr P v q d := by
    rcases Int.lt_or_eq_of_le (spr_nonneg P v q d) with e | e
    · exact e
    · have := sam_dot hd hc (show sam P d v q from e.symm); omega
  have hp : vcr (vcr (vsub (P q) (P v)) d) (vcr (vsub (P k) (P v)) d) = vO := by
    have t : ∀ u w : V3, vcr (vcr u d) (vcr w d) = (dot d (vcr u w) * d.1, dot d (vcr u w) * d.2.1, dot d (vcr u w) * d.2.2) := by
      intro u w; simp only [dot, vcr, Prod.mk.injEq]; grind
    rw [t]
    have h' : dot d (vcr (vsub (P q) (P v)) (vsub (P k) (P v))) = 0 := h
    rw [h']; simp [vO]
  have l := lagr (vcr (vsub (P q) (P v)) d) (vcr (vsub (P k) (P v)) d)
  rw [hp] at l
  have eU : dot (vcr (vsub (P q) (P v)) d) (vcr (vsub (P q) (P v)) d) = spr P v q d := rfl
  have eW : dot (vcr (vsub (P k) (P v)) d) (vcr (vsub (P k) (P v)) d) = spr P v k d := rfl
  rw [eU, eW] at l
  have hW := dot_self_nonneg (vsub (vcr (vsub (P q) (P v)) d) (vcr (vsub (P k) (P v)) d))
  have hX : dot (vsub (vcr (vsub (P q) (P v)) d) (vcr (vsub (P k) (P v)) d)) (vsub (vcr (vsub (P q) (P v)) d) (vcr (vsub (P k) (P v)) d)) = spr P v q d - 2 * dot (vcr (vsub (P q) (P v)) d) (vcr (vsub (P k) (P v)) d) + spr P v k d := by
    rw [← eU, ← eW]; simp only [dot, vsub]; grind
  have hsame : dot (vsub (vcr (vsub (P q) (P v)) d) (vcr (vsub (P k) (P v)) d)) (vsub (vcr (vsub (P q) (P v)) d) (vcr (vsub (P k) (P v)) d)) = 0 → sam P d k q := by
    intro e
    have := (vO_iff _).1 (dot_self_zero e)
    apply sam_mk; rw [vO_iff]
    simp only [vsub, vcr] at this ⊢
    obtain ⟨e1, e2, e3⟩ := this
    refine ⟨by grind, by grind, by grind⟩
  have l0 : dot vO vO = 0 := by simp [dot, vO]
  rw [l0] at l
  rw [hX] at hW hsame
  clear hX hp
  generalize dot (vcr (vsub (P q) (P v)) d) (vcr (vsub (P k) (P v)) d) = D at *
  generalize spr P v q d = U at *
  generalize spr P v k d = W at *
  have D0 : 0 < D := by
    rcases Int.lt_or_le 0 D with e | e
    · exact e
    · have e1 := Int.mul_nonneg_of_nonpos_of_nonpos e (show dot c (P q) - dot c (P v) ≤ 0 by omega)
      have e2 := Int.mul_neg_of_pos_of_neg U0 (show dot c (P k) - dot c (P v) < 0 by omega)
      omega
  have DU : D ≤ U := by
    rcases Int.lt_or_le U D with e | e
    · exfalso
      have e1 : U * W ≤ U * U := Int.mul_le_mul_of_nonneg_left hs (by omega)
      have e2 : U * U < D * D := by
        have a1 := Int.mul_lt_mul_of_pos_left e U0
        have a2 := Int.mul_lt_mul_of_pos_right e D0
        omega
      omega
    · exact e
  have e1 : D * (dot c (P q) - dot c (P v)) = U * (dot c (P k) - dot c (P v)) := a.symm
  constructor
  · rcases Int.lt_or_le (dot c (P k)) (dot c (P q)) with e | e
    · exfalso
      have e2 := Int.mul_lt_mul_of_pos_left (show dot c (P k) - dot c (P v) < dot c (P q) - dot c (P v) by omega) U0
      have e3 := Int.mul_le_mul_of_nonpos_right DU (show dot c (P q) - dot c (P v) ≤ 0 by omega)
      omega
    · exact e
  · intro e
    rw [e] at e1
    have e2 : D = U := Int.eq_of_mul_eq_mul_right (by omega) e1
    apply hsame
    subst e2
    have e3 : D * W = D * D := by omega
    have e4 : W = D := Int.eq_of_mul_eq_mul_left (by omega) e3
    omega
/-- large enough -/
theorem ex_big (y t : Nat → Int) (N : Nat) : ∃ K : Int, 0 ≤ K ∧ ∀ k, k < N → 0 < y k → t k < K * y k := by
  induction N with
  | zero => exact ⟨0, by omega, fun k hk => by omega⟩
  | succ N ih =>
    obtain ⟨K, h1, h2⟩ := ih
    refine ⟨K + (t N).natAbs + 1, by omega, fun k hk hy => ?_⟩
    by_cases e : k = N
    · subst e
      have a : (t k).natAbs + 1 ≤ (((t k).natAbs : Int) + 1) * y k := by
        have := Int.mul_le_mul_of_nonneg_left (show (1 : Int) ≤ y k by omega) (show (0 : Int) ≤ ((t k).natAbs : Int) + 1 by omega)
        omega
      have b := Int.mul_nonneg h1 (Int.le_of_lt hy)
      have c : (K + (t k).natAbs + 1) * y k = K * y k + (((t k).natAbs : Int) + 1) * y k := by grind
      omega
    · have a := h2 k (by omega) hy
      have b := Int.mul_nonneg (show (0 : Int) ≤ ((t N).natAbs : Int) + 1 by omega) (Int.le_of_lt hy)
      have c : (K + (t N).natAbs + 1) * y k = K * y k + (((t N).natAbs : Int) + 1) * y k := by grind
      omega
/-- the round's next: nothing to the right of the way, nothing beyond -/
def nxt (P : Nat → V3) (A : Nat → Prop) (d : V3) (p q : Nat) : Prop := A q ∧ ¬ sam P d p q ∧ ∀ r, A r → ¬ sam P d p r → 0 < swg P p q r d ∨ (swg P p q r d = 0 ∧ spr P p r d ≤ spr P p q d)
theorem nxt_ge {P : Nat → V3} {A : Nat → Prop} {d : V3} (hd : d ≠ vO) {p q : Nat} (h : nxt P A d p q) (r : Nat) (hr : A r) : 0 ≤ swg P p q r d := by
  by_cases e : sam P d p r
  · rw [← swg_sam3 hd e, swg_qp]; omega
  · rcases h.2.2 r hr e with h | h <;> omega
/-- a corner's next one is a corner -/
theorem nxt_expo {P : Nat → V3} {A : Nat → Prop} {d : V3} {N : Nat} (hA : ∀ k, A k → k < N) (hd : d ≠ vO) {p q : Nat} (hp : expo P A d p) (h : nxt P A d p q) : expo P A d q := by
  obtain ⟨hAp, c, c1, c2⟩ := hp
  obtain ⟨K, K0, K1⟩ := ex_big (fun k => swg P p q k d) (fun k => dot c (P q) - dot c (P k)) N
  refine ⟨h.1, vlc (-K) (vcr d (vsub (P q) (P p))) (-1) c, ?_, fun k hk => ?_⟩
  · rw [dot_lc, c1, dot_comm, dot_vcr_l]; omega
  by_cases e : sam P d q k
  · exact Or.inl e
  right
  have f1 := swg_fun P p q k d
  have f2 := swg_fun P p q q d
  rw [swg_pp] at f2
  have hq : dot c (P q) < dot c (P p) := (c2 q h.1).resolve_left h.2.1
  rw [dot_lc, dot_lc]
  have goal : dot c (P q) - dot c (P k) < K * swg P p q k d := by
    by_cases y : 0 < swg P p q k d
    · exact K1 k (hA k hk) y
    · have y0 : swg P p q k d = 0 := by have := nxt_ge hd h k hk; omega
      rw [y0, Int.mul_zero]
      by_cases s : sam P d p k
      · have := sam_dot hd c1 s; omega
      · have hk' := (c2 k hk).resolve_left s
        have hs : spr P p k d ≤ spr P p q d := by
          rcases h.2.2 k hk s with h | h <;> omega
        obtain ⟨a, b⟩ := col_cmp hd c1 y0 hq hk' hs
        have : dot c (P q) ≠ dot c (P k) := fun e2 => e (sam_symm (b e2))
        omega
  rw [f1] at goal
  generalize dot (vcr d (vsub (P q) (P p))) (P k) = X at *
  generalize dot (vcr d (vsub (P q) (P p))) (P p) = Y at *
  generalize dot (vcr d (vsub (P q) (P p))) (P q) = Z at *
  have : Z = Y := by omega
  subst this
  have : K * (X - Z) = K * X - K * Z := by grind
  have e1 : -K * X = -(K * X) := by grind
  have e2 : -K * Z = -(K * Z) := by grind
  omega
/-- a corner does not lie between two -/
theorem no_btw {P : Nat → V3} {A : Nat → Prop} {d : V3} {v a b : Nat} (hv : expo P A d v) (ha : A a) (hb : A b) (na : ¬ sam P d v a) (nb : ¬ sam P d v b) {s t : Int} (hs : 0 ≤ s) (ht : 0 ≤ t) (hst : 0 < s + t) (h : ∀ c, dot c d = 0 → s * (dot c (P a) - dot c (P v)) + t * (dot c (P b) - dot c (P v)) = 0) : False := by
  obtain ⟨_, c, c1, c2⟩ := hv
  have x := (c2 a ha).resolve_left na
  have y := (c2 b hb).resolve_left nb
  have z := h c c1
  have u1 := Int.mul_nonpos_of_nonneg_of_nonpos hs (show dot c (P a) - dot c (P v) ≤ 0 by omega)
  have u2 := Int.mul_nonpos_of_nonneg_of_nonpos ht (show dot c (P b) - dot c (P v) ≤ 0 by omega)
  by_cases e : 0 < s
  · have := Int.mul_neg_of_pos_of_neg e (show dot c (P a) - dot c (P v) < 0 by omega); omega
  · have := Int.mul_neg_of_pos_of_neg (show 0 < t by omega) (show dot c (P b) - dot c (P v) < 0 by omega); omega
