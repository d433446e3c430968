/-- products in a frame of three -/
theorem frame_ip (a b c u w : V3) : dot c (vcr a b) * dot c (vcr a b) * dot w u =
    dot u a * (dot w a * (dot b b * dot c c - dot b c * dot c b) + dot w b * (dot b c * dot c a - dot b a * dot c c) + dot w c * (dot b a * dot c b - dot b b * dot c a)) +
    dot u b * (dot w a * (dot c b * dot a c - dot c c * dot a b) + dot w b * (dot c c * dot a a - dot c a * dot a c) + dot w c * (dot c a * dot a b - dot c b * dot a a)) +
    dot u c * (dot w a * (dot a b * dot b c - dot a c * dot b b) + dot w b * (dot a c * dot b a - dot a a * dot b c) + dot w c * (dot a a * dot b b - dot a b * dot b a)) := by
  have e1 : dot w u * dot c (vcr a b) = dot u a * dot w (vcr b c) + dot u b * dot w (vcr c a) + dot u c * dot w (vcr a b) := by
    simp only [dot, vcr]; grind
  have d1 := det_mul b c w a b c
  have d2 := det_mul c a w a b c
  have d3 := det_mul a b w a b c
  generalize dot w (vcr b c) = x1 at *
  generalize dot w (vcr c a) = x2 at *
  generalize dot w (vcr a b) = x3 at *
  generalize dot c (vcr a b) = D at *
  have : D * D * dot w u = dot u a * (x1 * D) + dot u b * (x2 * D) + dot u c * (x3 * D) := by grind
  rw [this, d1, d2, d3]
/-- four goals as far from one another as the base -/
def fitG (P : Nat → V3) (b g : Nat → Nat) : Prop := ∀ i j, i < 4 → j < 4 → dst P (g i) (g j) = dst P (b i) (b j)
/-- q is where p comes -/
def isIm (P : Nat → V3) (b g : Nat → Nat) (p q : Nat) : Prop := ∀ k, k < 4 → dst P p (b k) = dst P q (g k)
theorem ip_eq {P : Nat → V3} {b g : Nat → Nat} (hf : fitG P b g) {p q p' q' : Nat} (h : isIm P b g p p') (h' : isIm P b g q q') (hd : dst P p q = dst P p' q') {i j : Nat} (hi : i < 4) (hj : j < 4) : dot (vsub (P p) (P (b 0))) (vsub (P (b i)) (P (b 0))) = dot (vsub (P p') (P (g 0))) (vsub (P (g i)) (P (g 0))) := by
  have a := gip P (b 0) p (b 0) (b i)
  have c := gip P (g 0) p' (g 0) (g i)
  rw [hf 0 i (by omega) hi, hf 0 0 (by omega) (by omega), ← h 0 (by omega), ← h i hi] at c
  omega
theorem fit_ip {P : Nat → V3} {b g : Nat → Nat} (hf : fitG P b g) {i j : Nat} (hi : i < 4) (hj : j < 4) : dot (vsub (P (b i)) (P (b 0))) (vsub (P (b j)) (P (b 0))) = dot (vsub (P (g i)) (P (g 0))) (vsub (P (g j)) (P (g 0))) := by
  have a := gip P (b 0) (b i) (b 0) (b j)
  have c := gip P (g 0) (g i) (g 0) (g j)
  rw [hf 0 j (by omega) hj, hf 0 0 (by omega) (by omega), hf i 0 hi (by omega), hf i j hi hj] at c
  omega
theorem fit_det {P : Nat → V3} {b g : Nat → Nat} (hf : fitG P b g) (hb : bxs P (b 0) (b 1) (b 2) (b 3) ≠ 0) : bxs P (g 0) (g 1) (g 2) (g 3) ≠ 0 ∧ bxs P (g 0) (g 1) (g 2) (g 3) * bxs P (g 0) (g 1) (g 2) (g 3) = bxs P (b 0) (b 1) (b 2) (b 3) * bxs P (b 0) (b 1) (b 2) (b 3) := by
  have e : bxs P (g 0) (g 1) (g 2) (g 3) * bxs P (g 0) (g 1) (g 2) (g 3) = bxs P (b 0) (b 1) (b 2) (b 3) * bxs P (b 0) (b 1) (b 2) (b 3) := by
    simp only [bxs_det]
    rw [det_mul, det_mul]
    rw [fit_ip hf (i := 3) (j := 1) (by omega) (by omega), fit_ip hf (i := 3) (j := 2) (by omega) (by omega), fit_ip hf (i := 3) (j := 3) (by omega) (by omega), fit_ip hf (i := 1) (j := 1) (by omega) (by omega), fit_ip hf (i := 1) (j := 2) (by omega) (by omega), fit_ip hf (i := 1) (j := 3) (by omega) (by omega), fit_ip hf (i := 2) (j := 1) (by omega) (by omega), fit_ip hf (i := 2) (j := 2) (by omega) (by omega), fit_ip hf (i := 2) (j := 3) (by omega) (by omega)]
  refine ⟨fun h => ?_, e⟩
  rw [h, Int.mul_zero] at e
  rcases Int.mul_eq_zero.1 e.symm with h | h <;> exact hb h
/-- distances to four goals tell a point -/
theorem im_uni {P : Nat → V3} {m : Nat} (hD : Dis P m) {b g : Nat → Nat} (hf : fitG P b g) (hb : bxs P (b 0) (b 1) (b 2) (b 3) ≠ 0) {p q q' : Nat} (hq : q < m) (hq' : q' < m) (h : isIm P b g p q) (h' : isIm P b g p q') : q = q' := by
  have gd := (fit_det hf hb).1
  have k : ∀ i, i < 4 → dot (vsub (P q) (P (g 0))) (vsub (P (g i)) (P (g 0))) = dot (vsub (P q') (P (g 0))) (vsub (P (g i)) (P (g 0))) := by
    intro i hi
    have a := gip P (g 0) q (g 0) (g i)
    have c := gip P (g 0) q' (g 0) (g i)
    rw [← h 0 (by omega), ← h i hi] at a
    rw [← h' 0 (by omega), ← h' i hi] at c
    omega
  have u := vec_uni (a := vsub (P (g 1)) (P (g 0))) (b := vsub (P (g 2)) (P (g 0))) (c := vsub (P (g 3)) (P (g 0))) (u := vsub (P q) (P (g 0))) (w := vsub (P q') (P (g 0))) gd (k 1 (by omega)) (k 2 (by omega)) (k 3 (by omega))
  have u1 := congrArg (fun t : V3 => t.1) u
  have u2 := congrArg (fun t : V3 => t.2.1) u
  have u3 := congrArg (fun t : V3 => t.2.2) u
  simp only [vsub] at u1 u2 u3
  exact hD _ _ hq hq' (v3ext (by omega) (by omega) (by omega))
/-- goals make a symmetry -/
theorem im_sy {P : Nat → V3} {m : Nat} {b g : Nat → Nat} (hf : fitG P b g) (hb : bxs P (b 0) (b 1) (b 2) (b 3) ≠ 0) {s : Nat → Nat} (hs : ∀ p, isCor P m p → isCor P m (s p) ∧ isIm P b g p (s p)) : sy P m s := by
  refine ⟨fun p hp => (hs p hp).1, fun p q hp hq => ?_⟩
  obtain ⟨gd, ge⟩ := fit_det hf hb
  have iu := (hs p hp).2
  have iw := (hs q hq).2
  have ik : ∀ p, isCor P m p → ∀ i, i < 4 → dot (vsub (P p) (P (b 0))) (vsub (P (b i)) (P (b 0))) = dot (vsub (P (s p)) (P (g 0))) (vsub (P (g i)) (P (g 0))) := fun p hp i hi => ip_eq hf (hs p hp).2 (hs p hp).2 (by rw [dst_self, dst_self]) hi hi
  have f1 := frame_ip (vsub (P (b 1)) (P (b 0))) (vsub (P (b 2)) (P (b 0))) (vsub (P (b 3)) (P (b 0))) (vsub (P p) (P (b 0))) (vsub (P q) (P (b 0)))
  have f2 := frame_ip (vsub (P (g 1)) (P (g 0))) (vsub (P (g 2)) (P (g 0))) (vsub (P (g 3)) (P (g 0))) (vsub (P (s p)) (P (g 0))) (vsub (P (s q)) (P (g 0)))
  rw [ik p hp 1 (by omega), ik p hp 2 (by omega), ik p hp 3 (by omega), ik q hq 1 (by omega), ik q hq 2 (by omega), ik q hq 3 (by omega)] at f1
  rw [fit_ip hf (i := 1) (j := 1) (by omega) (by omega), fit_ip hf (i := 1) (j := 2) (by omega) (by omega), fit_ip hf (i := 1) (j := 3) (by omega) (by omega), fit_ip hf (i := 2) (j := 1) (by omega) (by omega), fit_ip hf (i := 2) (j := 2) (by omega) (by omega), fit_ip hf (i := 2) (j := 3) (by omega) (by omega), fit_ip hf (i := 3) (j := 1) (by omega) (by omega), fit_ip hf (i := 3) (j := 2) (by omega) (by omega), fit_ip hf (i := 3) (j := 3) (by omega) (by omega)] at f1
  rw [← f2] at f1
  have ge' : dot (vsub (P (g 3)) (P (g 0))) (vcr (vsub (P (g 1)) (P (g 0))) (vsub (P (g 2)) (P (g 0)))) * dot (vsub (P (g 3)) (P (g 0))) (vcr (vsub (P (g 1)) (P (g 0))) (vsub (P (g 2)) (P (g 0)))) = dot (vsub (P (b 3)) (P (b 0))) (vcr (vsub (P (b 1)) (P (b 0))) (vsub (P (b 2)) (P (b 0)))) * dot (vsub (P (b 3)) (P (b 0))) (vcr (vsub (P (b 1)) (P (b 0))) (vsub (P (b 2)) (P (b 0)))) := ge
  rw [ge'] at f1
  have hb' : dot (vsub (P (b 3)) (P (b 0))) (vcr (vsub (P (b 1)) (P (b 0))) (vsub (P (b 2)) (P (b 0)))) ≠ 0 := hb
  have f3 := Int.eq_of_mul_eq_mul_left (fun h => by rcases Int.mul_eq_zero.1 h with h | h <;> exact hb' h) f1
  -- back to distances
  have a := gip P (b 0) q (b 0) p
  have c := gip P (g 0) (s q) (g 0) (s p)
  have z1 := iu 0 (by omega)
  have z2 := iw 0 (by omega)
  rw [dst_comm P (b 0) p, dst_self] at a
  rw [dst_comm P (g 0) (s p), dst_self] at c
  rw [dst_comm P p q, dst_comm P (s p) (s q)]
  omega
theorem sy_im {P : Nat → V3} {m : Nat} {s : Nat → Nat} (hs : sy P m s) {b : Nat → Nat} (hb : ∀ k, k < 4 → isCor P m (b k)) : fitG P b (fun k => s (b k)) ∧ ∀ p, isCor P m p → isIm P b (fun k => s (b k)) p (s p) :=
  ⟨fun i j hi hj => hs.2 _ _ (hb i hi) (hb j hj), fun p hp k hk => (hs.2 _ _ hp (hb k hk)).symm⟩
/-- ranks: how many stand before -/
def rkR (bf : Nat → Nat → Bool) (n : Nat) (r : Nat → Nat) : Nat → Nat → Nat
  | 0 => r
  | k + 1 => nup (rkR bf n r k) (cnt (fun g => bf g k) n) k
theorem rkR_spec {bf : Nat → Nat → Bool} {n : Nat} {r : Nat → Nat} (rk : Nat → Nat) (hrk : ∀ f, f < n → cnt (fun g => bf g f) n = rk f) (hinj : ∀ f g, f < n → g < n → rk f = rk g → f = g) : ∀ k, k ≤ n → ∀ f, f < k → rkR bf n r k (rk f) = f
  | 0, _, f, h => by omega
  | k + 1, hk, f, h => by
    simp only [rkR]
    rw [hrk k (by omega)]
    by_cases e : f = k
    · subst e; exact nup_s
    · rw [nup_n (fun e2 => e (hinj f k (by omega) (by omega) e2))]
      exact rkR_spec rk hrk hinj k (by omega) f (by omega)
theorem lxl_trans {C : Nat → Prop} {a b c : Nat → Nat} (h : lxl C a b) (h' : lxl C b c) : lxl C a c := by
  obtain ⟨p, p1, p2, p3⟩ := h
  obtain ⟨q, q1, q2, q3⟩ := h'
  rcases Nat.lt_trichotomy p q with u | u | u
  · exact ⟨p, p1, by rw [← q3 p u p1]; exact p2, fun r hr cr => by rw [p3 r hr cr, q3 r (by omega) cr]⟩
  · subst u; exact ⟨p, p1, by omega, fun r hr cr => by rw [p3 r hr cr, q3 r hr cr]⟩
  · exact ⟨q, q1, by rw [p3 q u q1]; exact q2, fun r hr cr => by rw [p3 r (by omega) cr, q3 r hr cr]⟩
theorem lxl_irr {C : Nat → Prop} {a : Nat → Nat} : ¬ lxl C a a := by rintro ⟨p, _, h, _⟩; omega
theorem lxl_congr {C : Nat → Prop} {a b a' b' : Nat → Nat} (h : ∀ p, C p → a p = a' p) (h' : ∀ p, C p → b p = b' p) : lxl C a b ↔ lxl C a' b' := by
  constructor
  · rintro ⟨p, p1, p2, p3⟩
    exact ⟨p, p1, by rw [← h p p1, ← h' p p1]; exact p2, fun q hq cq => by rw [← h q cq, ← h' q cq]; exact p3 q hq cq⟩
  · rintro ⟨p, p1, p2, p3⟩
    exact ⟨p, p1, by rw [h p p1, h' p p1]; exact p2, fun q hq cq => by rw [h q cq, h' q cq]; exact p3 q hq cq⟩
theorem ct_below (i : Nat) : ∀ N, i ≤ N → ct (fun j => j < i) N = i
  | 0, h => by rw [show i = 0 by omega]; rfl
  | N + 1, h => by
    by_cases e : i = N + 1
    · rw [ct_congr (q := fun _ => True) (fun k hk => ⟨fun _ => trivial, fun _ => by omega⟩), ct_all, e]
    · rw [ct_f (by omega)]; exact ct_below i N (by omega)
/-- two lists of all symmetries, one in order, the other by rank -/
theorem sy_rank {P : Nat → V3} {m N N' : Nat} {im im' : Nat → Nat → Nat} (h : SyL P m N im) (h' : SyL P m N' im') (hord : ∀ i j, i < j → j < N → lxl (isCor P m) (im i) (im j)) (bf : Nat → Nat → Bool) (hbf : ∀ i j, i < N' → j < N' → (bf i j = true ↔ lxl (isCor P m) (im' i) (im' j))) (r : Nat → Nat) : N' = N ∧ ∀ i, i < N → rkR bf N' r N' i < N' ∧ ∀ p, isCor P m p → im' (rkR bf N' r N' i) p = im i p := by
  obtain ⟨a1, a2, a3⟩ := h
  obtain ⟨b1, b2, b3⟩ := h'
  have hN : N' = N := by
    have := ct_bij (p := fun _ => True) (q := fun _ => True) (N := N') (M := N) (fun j i => ∀ p, isCor P m p → im i p = im' j p)
      (fun j hj _ => by obtain ⟨i, i1, i2⟩ := a3 _ (b1 j hj); exact ⟨i, i1, trivial, i2⟩)
      (fun i hi _ => by obtain ⟨j, j1, j2⟩ := b3 _ (a1 i hi); exact ⟨j, j1, trivial, fun p hp => (j2 p hp).symm⟩)
      (fun j k i hj hk _ _ _ x y => b2 j k hj hk (fun p hp => (x p hp).symm.trans (y p hp)))
      (fun j i k _ hi hk _ _ x y => a2 i k hi hk (fun p hp => (x p hp).trans (y p hp).symm))
    rw [ct_all, ct_all] at this; exact this
  have lti : ∀ i j, i < N → j < N → (lxl (isCor P m) (im j) (im i) ↔ j < i) := by
    intro i j hi hj
    constructor
    · intro h
      rcases Nat.lt_trichotomy j i with x | x | x
      · exact x
      · subst x; exact absurd h lxl_irr
      · exact absurd (lxl_trans h (hord i j x hj)) lxl_irr
    · intro h; exact hord j i h hi
  have rank : ∀ i f, i < N → f < N' → (∀ p, isCor P m p → im i p = im' f p) → cnt (fun g => bf g f) N' = i := by
    intro i f hi hf e
    rw [cnt_ct]
    have a := ct_bij (p := fun g => bf g f = true) (q := fun j => j < i) (N := N') (M := N) (fun g j => ∀ p, isCor P m p → im j p = im' g p)
      (fun g hg hp => by
        obtain ⟨j, j1, j2⟩ := a3 _ (b1 g hg)
        refine ⟨j, j1, ?_, j2⟩
        rw [← lti i j hi j1]
        exact (lxl_congr j2 e).2 ((hbf g f hg hf).1 hp))
      (fun j hj hp => by
        obtain ⟨g, g1, g2⟩ := b3 _ (a1 j hj)
        have g2' : ∀ p, isCor P m p → im j p = im' g p := fun p hp => (g2 p hp).symm
        refine ⟨g, g1, ?_, g2'⟩
        rw [← lti i j hi hj] at hp
        exact (hbf g f g1 hf).2 ((lxl_congr g2' e).1 hp))
      (fun g g' j hg hg' _ _ _ x y => b2 g g' hg hg' (fun p hp => (x p hp).symm.trans (y p hp)))
      (fun g j j' _ hj hj' _ _ x y => a2 j j' hj hj' (fun p hp => (x p hp).trans (y p hp).symm))
    rw [a]
    exact ct_below i N (by omega)
  have rk : ∀ f, f < N' → ∃ i, i < N ∧ (∀ p, isCor P m p → im i p = im' f p) ∧ cnt (fun g => bf g f) N' = i := by
    intro f hf
    obtain ⟨i, i1, i2⟩ := a3 _ (b1 f hf)
    exact ⟨i, i1, i2, rank i f i1 hf i2⟩
  have key := rkR_spec (bf := bf) (n := N') (r := r) (fun f => cnt (fun g => bf g f) N') (fun f _ => rfl) (fun f g hf hg e => by
    obtain ⟨i, i1, i2, i3⟩ := rk f hf
    obtain ⟨j, j1, j2, j3⟩ := rk g hg
    have e' : cnt (fun h => bf h f) N' = cnt (fun h => bf h g) N' := e
    rw [i3, j3] at e'
    subst e'
    exact b2 f g hf hg (fun p hp => (i2 p hp).symm.trans (j2 p hp))) N' (by omega)
  refine ⟨hN, fun i hi => ?_⟩
  obtain ⟨f, f1, f2⟩ := b3 _ (a1 i hi)
  have k := key f f1
  rw [rank i f hi f1 (fun p hp => (f2 p hp).symm)] at k
  rw [k]
  exact ⟨f1, f2⟩
