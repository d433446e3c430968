/-- all symmetries, each once -/
def SyL (P : Nat → V3) (m N : Nat) (im : Nat → Nat → Nat) : Prop := (∀ i, i < N → sy P m (im i)) ∧ (∀ i j, i < N → j < N → (∀ p, isCor P m p → im i p = im j p) → i = j) ∧ ∀ s, sy P m s → ∃ i, i < N ∧ ∀ p, isCor P m p → im i p = s p
theorem coset {P : Nat → V3} {m N : Nat} {im : Nat → Nat → Nat} (hD : Dis P m) (hL : SyL P m N im) {j : Nat} (hj : j < N) {A B : Nat → Prop} (h : ∀ i i', i < N → i' < N → (∀ p, isCor P m p → im i p = im j (im i' p)) → (A i' ↔ B i)) : ct A N = ct B N := by
  obtain ⟨h1, h2, h3⟩ := hL
  refine ct_bij (fun i' i => ∀ p, isCor P m p → im i p = im j (im i' p)) (fun i' hi' ha => ?_) (fun i hi hb => ?_) (fun i' i'' i hi' hi'' _ _ hi a b => ?_) (fun i' i k hi' hi hk _ _ a b => ?_)
  · obtain ⟨i, i1, i2⟩ := h3 _ (sy_comp (h1 j hj) (h1 i' hi'))
    exact ⟨i, i1, (h i i' i1 hi' i2).1 ha, i2⟩
  · obtain ⟨t, ht, t1, t2⟩ := sy_inv hD (h1 j hj)
    obtain ⟨i', i1, i2⟩ := h3 _ (sy_comp ht (h1 i hi))
    have e : ∀ p, isCor P m p → im i p = im j (im i' p) := fun p hp => by rw [i2 p hp, t2 _ ((h1 i hi).1 p hp)]
    exact ⟨i', i1, (h i i' hi i1 e).2 hb, e⟩
  · refine h2 i' i'' hi' hi'' (fun p hp => sy_inj hD (h1 j hj) ((h1 i' hi').1 p hp) ((h1 i'' hi'').1 p hp) ?_)
    rw [← a p hp, b p hp]
  · exact h2 i k hi hk (fun p hp => (a p hp).trans (b p hp).symm)
theorem vec_sy1 {P : Nat → V3} {m : Nat} {s : Nat → Nat} (hsy : sy P m s) {k k' : Nat → Int} (h : wt P m k) (h' : wt P m k') (a : Int) : vec k P = vlc a (vec k' P) 0 vO ↔ vec k (fun p => P (s p)) = vlc a (vec k' (fun p => P (s p))) 0 vO := by
  constructor
  · exact vec_sy0 hsy h h' a
  · intro he
    have w := wt_lc h h' 1 (-a)
    have z : vec (fun p => 1 * k p + -a * k' p) (fun p => P (s p)) = vO := by
      rw [vec_lc, he]; simp only [vlc, vO]
      refine v3ext ?_ ?_ ?_ <;> simp only <;> grind
    have g := vec_sy hsy w w
    rw [z] at g
    have z2 := dot_self_zero (g.symm.trans (by simp [dot, vO]))
    rw [vec_lc, vO_iff] at z2
    simp only [vlc] at z2
    refine v3ext ?_ ?_ ?_ <;> simp only [vlc, vO] <;> grind
/-- the difference of two corners as weights -/
def dl (p q x : Nat) : Int := (if x = q then 1 else 0) - (if x = p then 1 else 0)
theorem smI_one (f : Nat → Int) (q : Nat) : ∀ N, smI (fun x => (if x = q then 1 else 0) * f x) N = if q < N then f q else 0
  | 0 => by simp [smI]
  | N + 1 => by
    simp only [smI]
    rw [smI_one f q N]
    by_cases e : N = q
    · subst e; rw [if_neg (by omega), if_pos rfl, if_pos (by omega)]; omega
    · rw [if_neg e]
      by_cases e2 : q < N
      · rw [if_pos e2, if_pos (by omega)]; omega
      · rw [if_neg e2, if_neg (by omega)]; omega
theorem dl_sum (f : Nat → Int) {p q : Nat} (hp : p < 14) (hq : q < 14) : smI (fun x => dl p q x * f x) 14 = f q - f p := by
  have : smI (fun x => dl p q x * f x) 14 = smI (fun x => (if x = q then 1 else 0) * f x + -1 * ((if x = p then 1 else 0) * f x)) 14 := smI_congr (fun x _ => by simp only [dl]; grind)
  rw [this, smI_add, smI_mul, smI_one, smI_one, if_pos hq, if_pos hp]; omega
theorem dl_vec {p q : Nat} (hp : p < 14) (hq : q < 14) (Q : Nat → V3) : vec (dl p q) Q = vsub (Q q) (Q p) := by
  simp only [vec, vsub]
  rw [dl_sum _ hp hq, dl_sum _ hp hq, dl_sum _ hp hq]
theorem dl_wt {P : Nat → V3} {m p q : Nat} (hm : m ≤ 14) (hp : isCor P m p) (hq : isCor P m q) : wt P m (dl p q) := by
  have p14 : p < 14 := by have := hp.1; omega
  have q14 : q < 14 := by have := hq.1; omega
  refine ⟨fun x hx => ?_, ?_⟩
  · simp only [dl]
    rw [if_neg (by rintro rfl; exact hx hq), if_neg (by rintro rfl; exact hx hp)]; rfl
  · have := dl_sum (fun _ => 1) p14 q14
    have e : smI (fun x => dl p q x * 1) 14 = smI (dl p q) 14 := smI_congr (fun x _ => by omega)
    rw [e] at this; omega
/-- sums of corners across a -/
def Lam (P : Nat → V3) (m : Nat) (a u : V3) : Prop := (∃ k, wt P m k ∧ u = vec k P) ∧ dot u a = 0
theorem Lam_lc {P : Nat → V3} {m : Nat} {a u v : V3} (h : Lam P m a u) (h' : Lam P m a v) (x y : Int) : Lam P m a (vlc x u y v) := by
  obtain ⟨⟨k, k1, rfl⟩, k2⟩ := h
  obtain ⟨⟨l, l1, rfl⟩, l2⟩ := h'
  exact ⟨⟨_, wt_lc k1 l1 x y, (vec_lc x y k l P).symm⟩, by rw [dot_lc, k2, l2]; omega⟩
theorem Lam_min {P : Nat → V3} {m : Nat} (hm : m ≤ 14) (hD : Dis P m) (hs : Sol P m) (a : V3) : ∃ u, Lam P m a u ∧ u ≠ vO ∧ ∀ w, Lam P m a w → w ≠ vO → dot u u ≤ dot w w := by
  have hex : ∃ u, Lam P m a u ∧ u ≠ vO := by
    obtain ⟨x, y, z, t, hx, hy, hz, ht, hne⟩ := cor_base hm hD hs
    have x14 : x < 14 := by have := hx.1; omega
    have y14 : y < 14 := by have := hy.1; omega
    have z14 : z < 14 := by have := hz.1; omega
    have hN : ncr P x y z ≠ vO := by
      intro e; rw [bxs_fun, e] at hne; exact hne (by simp [dot, vO])
    by_cases h : dot (vsub (P y) (P x)) a = 0
    · refine ⟨vsub (P y) (P x), ⟨⟨_, dl_wt hm hx hy, (dl_vec x14 y14 P).symm⟩, h⟩, fun e => hN ?_⟩
      simp only [ncr]; rw [e]; simp [vcr, vO]
    · refine ⟨vlc (dot (vsub (P y) (P x)) a) (vsub (P z) (P x)) (-(dot (vsub (P z) (P x)) a)) (vsub (P y) (P x)), ⟨⟨_, wt_lc (dl_wt hm hx hz) (dl_wt hm hx hy) (dot (vsub (P y) (P x)) a) (-(dot (vsub (P z) (P x)) a)), ?_⟩, ?_⟩, fun e => hN ?_⟩
      · rw [vec_lc, dl_vec x14 z14, dl_vec x14 y14]
      · rw [dot_lc]; grind
      · have e' := (vO_iff _).1 e
        simp only [vlc] at e'
        obtain ⟨e1, e2, e3⟩ := e'
        have k : ∀ t : Int, dot (vsub (P y) (P x)) a * t = 0 → t = 0 := fun t ht => (Int.mul_eq_zero.1 ht).resolve_left h
        rw [vO_iff]
        simp only [ncr, vcr]
        refine ⟨k _ ?_, k _ ?_, k _ ?_⟩ <;> grind
  obtain ⟨u, u1, u2⟩ := hex
  -- the least
  have key : ∀ N : Nat, ∀ u, Lam P m a u → u ≠ vO → dot u u ≤ (N : Int) → ∃ u, Lam P m a u ∧ u ≠ vO ∧ ∀ w, Lam P m a w → w ≠ vO → dot u u ≤ dot w w := by
    intro N
    induction N with
    | zero => intro u _ h2 h3; have := dot_self_pos h2; omega
    | succ N ih =>
      intro u h1 h2 h3
      by_cases c : ∃ w, Lam P m a w ∧ w ≠ vO ∧ dot w w < dot u u
      · obtain ⟨w, w1, w2, w3⟩ := c
        exact ih w w1 w2 (by omega)
      · refine ⟨u, h1, h2, fun w w1 w2 => ?_⟩
        rcases Int.lt_or_le (dot w w) (dot u u) with h | h
        · exact absurd ⟨w, w1, w2, h⟩ c
        · exact h
  exact key (dot u u).toNat u u1 u2 (by have := dot_self_nonneg u; omega)
theorem vneg_lc (u : V3) : vlc (-1) u 0 vO = vneg u := by
  simp only [vlc, vneg, vO]
  refine v3ext ?_ ?_ ?_ <;> simp only <;> omega
theorem one_lc (u : V3) : vlc 1 u 0 vO = u := by
  simp only [vlc, vO]
  refine v3ext ?_ ?_ ?_ <;> simp only <;> omega
theorem min_bd {P : Nat → V3} {m : Nat} {a u v : V3} {μ : Int} (hmin : ∀ w, Lam P m a w → w ≠ vO → μ ≤ dot w w) (hu : Lam P m a u) (hv : Lam P m a v) (nu : dot u u = μ) (nv : dot v v = μ) (h1 : u ≠ v) (h2 : u ≠ vneg v) : -μ ≤ 2 * dot u v ∧ 2 * dot u v ≤ μ := by
  have a1 := hmin _ (Lam_lc hu hv 1 (-1)) (fun e => h1 (by
    rw [vO_iff] at e; simp only [vlc] at e
    exact v3ext (by omega) (by omega) (by omega)))
  have a2 := hmin _ (Lam_lc hu hv 1 1) (fun e => h2 (by
    rw [vO_iff] at e; simp only [vlc] at e
    exact v3ext (by simp only [vneg]; omega) (by simp only [vneg]; omega) (by simp only [vneg]; omega)))
  have e1 : dot (vlc 1 u (-1) v) (vlc 1 u (-1) v) = dot u u - 2 * dot u v + dot v v := by rw [dot_lc, dot_lcr, dot_lcr, dot_comm v u]; omega
  have e2 : dot (vlc 1 u 1 v) (vlc 1 u 1 v) = dot u u + 2 * dot u v + dot v v := by rw [dot_lc, dot_lcr, dot_lcr, dot_comm v u]; omega
  omega
/-- a mean of corners -/
noncomputable def kA (P : Nat → V3) (m : Nat) (S : Nat → Prop) (p : Nat) : Int := @ite Int (isCor P m p) (Classical.propDecidable _) ((@ite Int (S p) (Classical.propDecidable _) (nV P m : Int) 0) - (ct (fun q => isCor P m q ∧ S q) 14 : Int)) 0
theorem smI_ct (p : Nat → Prop) (c : Int) : ∀ N, smI (fun k => @ite Int (p k) (Classical.propDecidable _) c 0) N = c * (ct p N : Int)
  | 0 => by simp [smI, ct]
  | N + 1 => by
    simp only [smI]
    rw [smI_ct p c N]
    by_cases e : p N
    · rw [if_pos e, ct_t e]; rw [Int.natCast_add, Int.mul_add]; simp
    · rw [if_neg e, ct_f e]; omega
theorem kA_wt (P : Nat → V3) (m : Nat) (S : Nat → Prop) : wt P m (kA P m S) := by
  refine ⟨fun p hp => by simp only [kA]; rw [if_neg hp], ?_⟩
  have : smI (kA P m S) 14 = smI (fun p => @ite Int (isCor P m p ∧ S p) (Classical.propDecidable _) (nV P m : Int) 0 + @ite Int (isCor P m p) (Classical.propDecidable _) (-(ct (fun q => isCor P m q ∧ S q) 14 : Int)) 0) 14 := by
    refine smI_congr (fun p _ => ?_)
    simp only [kA]
    by_cases h : isCor P m p <;> by_cases h' : S p <;> simp [h, h']
    omega
  rw [this, smI_add, smI_ct, smI_ct]
  simp only [nV]; grind
/-- the least group of an outstanding set has an order that divides 24 -/
theorem axis {P : Nat → V3} {m N : Nat} {im : Nat → Nat → Nat} (hm : m ≤ 14) (hD : Dis P m) (hs : Sol P m) (hL : SyL P m N im) {S : Nat → Prop} {c : V3} {z : Int} (h1 : ∀ p, isCor P m p → S p → dot c (P p) = z) (h2 : ∀ p, isCor P m p → ¬ S p → dot c (P p) < z) (hin : ∃ p, isCor P m p ∧ S p) (hout : ∃ p, isCor P m p ∧ ¬ S p) : ct (fun i => ∀ p, isCor P m p → (S (im i p) ↔ S p)) N ∣ 24 := by
  obtain ⟨L1, L2, L3⟩ := id hL
  -- the axis
  generalize hka : kA P m S = ka
  have wka : wt P m ka := by rw [← hka]; exact kA_wt P m S
  generalize ha : vec ka P = a
  have a0 : a ≠ vO := by
    intro e
    have q : dot c a = smI (fun p => ka p * dot c (P p)) 14 := by rw [← ha, dot_vec]
    have q2 : smI (fun p => ka p * dot c (P p)) 14 = smI (fun p => z * ka p + (ct (fun q => isCor P m q ∧ S q) 14 : Int) * @ite Int (isCor P m p ∧ ¬ S p) (Classical.propDecidable _) (z - dot c (P p)) 0) 14 := by
      refine smI_congr (fun p _ => ?_)
      rw [← hka]; simp only [kA]
      by_cases hp : isCor P m p <;> by_cases hp' : S p
      · rw [if_pos hp, if_pos hp', h1 p hp hp', if_neg (fun h => h.2 hp')]; grind
      · rw [if_pos hp, if_neg hp', if_pos ⟨hp, hp'⟩]; grind
      · rw [if_neg hp, if_neg (fun h => hp h.1)]; grind
      · rw [if_neg hp, if_neg (fun h => hp h.1)]; grind
    rw [smI_add, smI_mul, smI_mul, wka.2, Int.mul_zero, Int.zero_add] at q2
    obtain ⟨p0, c0, s0⟩ := hout
    obtain ⟨p1, c1, s1⟩ := hin
    have pos : 0 < smI (fun p => @ite Int (isCor P m p ∧ ¬ S p) (Classical.propDecidable _) (z - dot c (P p)) 0) 14 := by
      refine smI_pos (j := p0) (fun p _ => ?_) (by have := c0.1; omega) ?_
      · by_cases hp : isCor P m p ∧ ¬ S p
        · rw [if_pos hp]; have := h2 p hp.1 hp.2; omega
        · rw [if_neg hp]; omega
      · show 0 < @ite Int (isCor P m p0 ∧ ¬ S p0) (Classical.propDecidable _) (z - dot c (P p0)) 0
        rw [if_pos ⟨c0, s0⟩]; have := h2 p0 c0 s0; omega
    have cp : 0 < ct (fun q => isCor P m q ∧ S q) 14 := ct_pos.2 ⟨p1, by have := c1.1; omega, c1, s1⟩
    have := Int.mul_pos (show (0 : Int) < (ct (fun q => isCor P m q ∧ S q) 14 : Int) by omega) pos
    have cz : dot c vO = 0 := by simp [dot, vO]
    rw [e, cz, q2] at q
    omega
  -- the least vector across it
  obtain ⟨u, ⟨⟨k0, wk0, hu⟩, ua⟩, u0, hmin⟩ := Lam_min hm hD hs a
  have μp := dot_self_pos u0
  generalize hμ : dot u u = μ at *
  generalize hU : (fun i => vec k0 (fun p => P (im i p))) = U
  have hUi : ∀ i, U i = vec k0 (fun p => P (im i p)) := fun i => by rw [← hU]
  generalize hH : (fun i => ∀ p, isCor P m p → (S (im i p) ↔ S p)) = H
  have hHi : ∀ i, H i ↔ ∀ p, isCor P m p → (S (im i p) ↔ S p) := fun i => by rw [← hH]
  -- what keeps the set keeps the axis
  have Ka : ∀ i, i < N → H i → vec ka (fun p => P (im i p)) = a := by
    intro i hi hh
    obtain ⟨k', wk', k1, k2⟩ := vec_push hm hD (L1 i hi) wka
    rw [k2 P, ← ha]
    have e : ∀ p, k' p = ka p := by
      intro p
      by_cases hp : isCor P m p
      · obtain ⟨q, hq, rfl⟩ := sy_surj hD (L1 i hi) hp
        rw [k1 q hq, ← hka]
        simp only [kA]
        rw [if_pos hq, if_pos hp]
        have := (hHi i).1 hh q hq
        by_cases s : S q
        · rw [if_pos s, if_pos (this.2 s)]
        · rw [if_neg s, if_neg (fun t => s (this.1 t))]
      · rw [wk'.1 p hp, wka.1 p hp]
    rw [show k' = ka from funext e]
  have Un : ∀ i, i < N → dot (U i) (U i) = μ := by
    intro i hi; rw [hUi, vec_sy (L1 i hi) wk0 wk0, ← hu]; exact hμ
  have Ua : ∀ i, i < N → H i → dot (U i) a = 0 := by
    intro i hi hh
    have := vec_sy (L1 i hi) wk0 wka
    rw [Ka i hi hh, ha, ← hUi, ← hu] at this
    rw [this]; exact ua
  have UL : ∀ i, i < N → H i → Lam P m a (U i) := by
    intro i hi hh
    obtain ⟨k', wk', _, k2⟩ := vec_push hm hD (L1 i hi) wk0
    exact ⟨⟨k', wk', by rw [hUi]; exact k2 P⟩, Ua i hi hh⟩
  have mulU : ∀ i j i', i < N → j < N → i' < N → (∀ p, isCor P m p → im i p = im j (im i' p)) → ∀ s : Int, (U i' = vlc s u 0 vO ↔ U i = vlc s (U j) 0 vO) := by
    intro i j i' hi hj hi' e s
    obtain ⟨k', wk', _, k2⟩ := vec_push hm hD (L1 i' hi') wk0
    have e1 : U i' = vec k' P := by rw [hUi]; exact k2 P
    have e2 : U i = vec k' (fun p => P (im j p)) := by
      rw [hUi, ← k2 (fun p => P (im j p))]
      refine vec_congr (fun p _ hp => ?_)
      have : isCor P m p := Classical.byContradiction fun h => hp (wk0.1 p h)
      show P (im i p) = P (im j (im i' p))
      rw [e p this]
    rw [e1, e2, hu, hUi]
    exact vec_sy1 (L1 j hj) wk' wk0 s
  have mulH : ∀ i j i', i < N → j < N → i' < N → H j → (∀ p, isCor P m p → im i p = im j (im i' p)) → (H i' ↔ H i) := by
    intro i j i' hi hj hi' hh e
    rw [hHi, hHi]
    constructor
    · intro h p hp
      rw [e p hp, (hHi j).1 hh _ ((L1 i' hi').1 p hp)]; exact h p hp
    · intro h p hp
      have := h p hp
      rw [e p hp, (hHi j).1 hh _ ((L1 i' hi').1 p hp)] at this; exact this
  have one' : ∀ v : V3, vlc 1 v 0 vO = v := one_lc
  have neg' : ∀ v : V3, vlc (-1) v 0 vO = vneg v := vneg_lc
  have nn : ∀ v : V3, vneg (vneg v) = v := fun v => by simp [vneg]
  -- the lines
  have line : ∀ j, j < N → H j → ct (fun i => H i ∧ (U i = U j ∨ U i = vneg (U j))) N = ct (fun i => H i ∧ (U i = u ∨ U i = vneg u)) N := by
    intro j hj hh
    refine (coset hD hL hj (fun i i' hi hi' e => ?_)).symm
    have m1 := mulU i j i' hi hj hi' e 1
    have m2 := mulU i j i' hi hj hi' e (-1)
    rw [one', one'] at m1
    rw [neg', neg'] at m2
    have m3 := mulH i j i' hi hj hi' hh e
    rw [m1, m2, m3]
  -- the one that moves nothing
  obtain ⟨e0, he0, ee⟩ := L3 _ (sy_id P m)
  have He : H e0 := (hHi e0).2 (fun p hp => by rw [ee p hp])
  have Ue : U e0 = u := by
    rw [hUi, hu]
    refine vec_congr (fun p _ hp => ?_)
    have : isCor P m p := Classical.byContradiction fun h => hp (wk0.1 p h)
    show P (im e0 p) = P p
    rw [ee p this]
  generalize hK : ct (fun i => H i ∧ (U i = u ∨ U i = vneg u)) N = K at *
  -- how many lines
  have hlines : ct H N = K ∨ ct H N = 2 * K ∨ ct H N = 3 * K := by
    have sp1 := ct_split H (fun i => U i = u ∨ U i = vneg u) N
    by_cases x2 : ∃ j, j < N ∧ H j ∧ ¬ (U j = u ∨ U j = vneg u)
    · obtain ⟨j, hj, hhj, nj⟩ := x2
      have sp2 := ct_split (fun i => H i ∧ ¬ (U i = u ∨ U i = vneg u)) (fun i => U i = U j ∨ U i = vneg (U j)) N
      have p2 : ct (fun i => (H i ∧ ¬ (U i = u ∨ U i = vneg u)) ∧ (U i = U j ∨ U i = vneg (U j))) N = K := by
        rw [← line j hj hhj]
        refine ct_congr (fun i _ => ⟨fun h => ⟨h.1.1, h.2⟩, fun h => ⟨⟨h.1, fun h' => nj ?_⟩, h.2⟩⟩)
        rcases h.2 with t | t <;> rcases h' with t' | t'
        · exact Or.inl (t.symm.trans t')
        · exact Or.inr (t.symm.trans t')
        · right; rw [← nn (U j), ← t, t']
        · left; rw [← nn (U j), ← t, t', nn]
      by_cases x3 : ∃ k, k < N ∧ (H k ∧ ¬ (U k = u ∨ U k = vneg u)) ∧ ¬ (U k = U j ∨ U k = vneg (U j))
      · obtain ⟨k, hk, ⟨hhk, nk⟩, nkj⟩ := x3
        have sp3 := ct_split (fun i => (H i ∧ ¬ (U i = u ∨ U i = vneg u)) ∧ ¬ (U i = U j ∨ U i = vneg (U j))) (fun i => U i = U k ∨ U i = vneg (U k)) N
        have p3 : ct (fun i => ((H i ∧ ¬ (U i = u ∨ U i = vneg u)) ∧ ¬ (U i = U j ∨ U i = vneg (U j))) ∧ (U i = U k ∨ U i = vneg (U k))) N = K := by
          rw [← line k hk hhk]
          refine ct_congr (fun i _ => ⟨fun h => ⟨h.1.1.1, h.2⟩, fun h => ⟨⟨⟨h.1, fun h' => nk ?_⟩, fun h' => nkj ?_⟩, h.2⟩⟩)
          · rcases h.2 with t | t <;> rcases h' with t' | t'
            · exact Or.inl (t.symm.trans t')
            · exact Or.inr (t.symm.trans t')
            · right; rw [← nn (U k), ← t, t']
            · left; rw [← nn (U k), ← t, t', nn]
          · rcases h.2 with t | t <;> rcases h' with t' | t'
            · exact Or.inl (t.symm.trans t')
            · exact Or.inr (t.symm.trans t')
            · right; rw [← nn (U k), ← t, t']
            · left; rw [← nn (U k), ← t, t', nn]
        have p4 : ct (fun i => ((H i ∧ ¬ (U i = u ∨ U i = vneg u)) ∧ ¬ (U i = U j ∨ U i = vneg (U j))) ∧ ¬ (U i = U k ∨ U i = vneg (U k))) N = 0 := by
          refine ct_none (fun i hi h => ?_)
          obtain ⟨⟨⟨hhi, ni⟩, nij⟩, nik⟩ := h
          have bd := fun (x y : V3) (hx : Lam P m a x) (hy : Lam P m a y) (nx : dot x x = μ) (ny : dot y y = μ) (h : ¬ (x = y ∨ x = vneg y)) => min_bd hmin hx hy nx ny (fun e => h (Or.inl e)) (fun e => h (Or.inr e))
          have Lu : Lam P m a u := ⟨⟨k0, wk0, hu⟩, ua⟩
          have flip : ∀ x y : V3, ¬ (x = y ∨ x = vneg y) → ¬ (y = x ∨ y = vneg x) := fun x y h h' => h (by
            rcases h' with t | t
            · exact Or.inl t.symm
            · exact Or.inr (by rw [t, nn]))
          exact four_lines (u1 := u) (u2 := U j) (u3 := U k) (u4 := U i) a0 μp ua (Ua j hj hhj) (Ua k hk hhk) (Ua i hi hhi) hμ (Un j hj) (Un k hk) (Un i hi)
            (bd _ _ Lu (UL j hj hhj) hμ (Un j hj) (flip _ _ nj)) (bd _ _ Lu (UL k hk hhk) hμ (Un k hk) (flip _ _ nk)) (bd _ _ Lu (UL i hi hhi) hμ (Un i hi) (flip _ _ ni))
            (bd _ _ (UL j hj hhj) (UL k hk hhk) (Un j hj) (Un k hk) (flip _ _ nkj)) (bd _ _ (UL j hj hhj) (UL i hi hhi) (Un j hj) (Un i hi) (flip _ _ nij)) (bd _ _ (UL k hk hhk) (UL i hi hhi) (Un k hk) (Un i hi) (flip _ _ nik))
        right; right; omega
      · have p3 : ct (fun i => (H i ∧ ¬ (U i = u ∨ U i = vneg u)) ∧ ¬ (U i = U j ∨ U i = vneg (U j))) N = 0 := ct_none (fun i hi h => x3 ⟨i, hi, h⟩)
        right; left; omega
    · have p2 : ct (fun i => H i ∧ ¬ (U i = u ∨ U i = vneg u)) N = 0 := ct_none (fun i hi h => x2 ⟨i, hi, h⟩)
      left; omega
  -- both ways along a line
  have une : u ≠ vneg u := by
    intro e
    apply u0
    rw [vO_iff]
    have e1 := congrArg (fun t : V3 => t.1) e
    have e2 := congrArg (fun t : V3 => t.2.1) e
    have e3 := congrArg (fun t : V3 => t.2.2) e
    simp only [vneg] at e1 e2 e3
    omega
  have hways : K = ct (fun i => H i ∧ U i = u) N ∨ K = 2 * ct (fun i => H i ∧ U i = u) N := by
    have sp := ct_split (fun i => H i ∧ (U i = u ∨ U i = vneg u)) (fun i => U i = u) N
    have q1 := ct_congr (N := N) (p := fun i => (H i ∧ (U i = u ∨ U i = vneg u)) ∧ U i = u) (q := fun i => H i ∧ U i = u) (fun i _ => ⟨fun h => ⟨h.1.1, h.2⟩, fun h => ⟨⟨h.1, Or.inl h.2⟩, h.2⟩⟩)
    have q2 := ct_congr (N := N) (p := fun i => (H i ∧ (U i = u ∨ U i = vneg u)) ∧ ¬ U i = u) (q := fun i => H i ∧ U i = vneg u) (fun i _ => ⟨fun h => ⟨h.1.1, h.1.2.resolve_left h.2⟩, fun h => ⟨⟨h.1, Or.inr h.2⟩, fun e => une (e.symm.trans h.2)⟩⟩)
    by_cases x : ∃ j, j < N ∧ H j ∧ U j = vneg u
    · obtain ⟨j, hj, hhj, ej⟩ := x
      right
      have : ct (fun i => H i ∧ U i = vneg u) N = ct (fun i => H i ∧ U i = u) N := by
        refine (coset hD hL hj (fun i i' hi hi' e => ?_)).symm
        have m1 := mulU i j i' hi hj hi' e 1
        rw [one', one', ej] at m1
        have m3 := mulH i j i' hi hj hi' hhj e
        rw [m1, m3]
      omega
    · left
      have : ct (fun i => H i ∧ U i = vneg u) N = 0 := ct_none (fun i hi h => x ⟨i, hi, h⟩)
      omega
  -- a mirror or nothing
  have hmir : ct (fun i => H i ∧ U i = u) N = 1 ∨ ct (fun i => H i ∧ U i = u) N = 2 := by
    -- inner products with the axis and the least vector stay
    have ia : ∀ i, i < N → H i → ∀ p q, isCor P m p → isCor P m q → dot (vsub (P (im i q)) (P (im i p))) a = dot (vsub (P q) (P p)) a := by
      intro i hi hh p q hp hq
      have p14 : p < 14 := by have := hp.1; omega
      have q14 : q < 14 := by have := hq.1; omega
      have := vec_sy (L1 i hi) (dl_wt hm hp hq) wka
      rw [Ka i hi hh, ha, dl_vec p14 q14, dl_vec p14 q14] at this
      exact this
    have iu : ∀ i, i < N → U i = u → ∀ p q, isCor P m p → isCor P m q → dot (vsub (P (im i q)) (P (im i p))) u = dot (vsub (P q) (P p)) u := by
      intro i hi hh p q hp hq
      have p14 : p < 14 := by have := hp.1; omega
      have q14 : q < 14 := by have := hq.1; omega
      have := vec_sy (L1 i hi) (dl_wt hm hp hq) wk0
      rw [← hUi, hh, ← hu, dl_vec p14 q14, dl_vec p14 q14] at this
      exact this
    have au : dot a u = 0 := by rw [dot_comm]; exact ua
    have mix : ∀ x y : V3, dot (vcr a u) x * dot (vcr a u) y = dot a a * dot u u * dot x y - dot a a * (dot x u * dot y u) - dot u u * (dot x a * dot y a) := by
      intro x y
      have i : (dot a a * dot u u - dot a u * dot a u) * dot x y = dot a a * (dot u y * dot x u) + dot (vcr a u) y * dot x (vcr a u) + dot u u * (dot a y * dot x a) - dot a u * (dot a y * dot x u + dot u y * dot x a) := by
        simp only [dot, vcr]; grind
      rw [au, dot_comm x (vcr a u), dot_comm u y, dot_comm a y] at i
      grind
    have ww : ∀ i, i < N → H i → U i = u → ∀ p q p' q', isCor P m p → isCor P m q → isCor P m p' → isCor P m q' → dot (vcr a u) (vsub (P (im i q)) (P (im i p))) * dot (vcr a u) (vsub (P (im i q')) (P (im i p'))) = dot (vcr a u) (vsub (P q) (P p)) * dot (vcr a u) (vsub (P q') (P p')) := by
      intro i hi hh hui p q p' q' hp hq hp' hq'
      rw [mix, mix, ia i hi hh p q hp hq, ia i hi hh p' q' hp' hq', iu i hi hui p q hp hq, iu i hi hui p' q' hp' hq', sy_ip (L1 i hi) hp hq hp' hq']
    have w0 : vcr a u ≠ vO := cr_ne a0 u0 au
    -- two corners apart across the mirror
    have hpair : ∃ p q, isCor P m p ∧ isCor P m q ∧ dot (vcr a u) (vsub (P q) (P p)) ≠ 0 := by
      obtain ⟨x, hx, x2⟩ := max_cor hm hD hs (vcr a u)
      obtain ⟨y, hy, y2⟩ := max_cor hm hD hs (vneg (vcr a u))
      refine ⟨y, x, hy, hx, fun e => ?_⟩
      obtain ⟨k, k1, k2⟩ := sol_np hs w0 (dot (vcr a u) (P x))
      have := x2 k k1
      have t := y2 k k1
      rw [dot_neg, dot_neg] at t
      rw [dot_sub] at e
      omega
    obtain ⟨p0, q0, cp0, cq0, hw0⟩ := hpair
    -- the same on which side: the same
    have same : ∀ i j, i < N → j < N → H i → H j → U i = u → U j = u → dot (vcr a u) (vsub (P (im i q0)) (P (im i p0))) = dot (vcr a u) (vsub (P (im j q0)) (P (im j p0))) → i = j := by
      intro i j hi hj hhi hhj ui uj hw
      have nz : dot (vcr a u) (vsub (P (im i q0)) (P (im i p0))) ≠ 0 := by
        intro e
        have := ww i hi hhi ui p0 q0 p0 q0 cp0 cq0 cp0 cq0
        rw [e, Int.zero_mul] at this
        rcases Int.mul_eq_zero.1 this.symm with h | h <;> exact hw0 h
      have all : ∀ p q, isCor P m p → isCor P m q → vsub (P (im i q)) (P (im i p)) = vsub (P (im j q)) (P (im j p)) := by
        intro p q hp hq
        have t1 := ww i hi hhi ui p0 q0 p q cp0 cq0 hp hq
        have t2 := ww j hj hhj uj p0 q0 p q cp0 cq0 hp hq
        rw [← hw] at t2
        have t3 := Int.eq_of_mul_eq_mul_left nz (t1.trans t2.symm)
        refine vec_uni (a := a) (b := u) (c := vcr a u) (by have := dot_self_pos w0; omega) ?_ ?_ ?_
        · rw [ia i hi hhi p q hp hq, ia j hj hhj p q hp hq]
        · rw [iu i hi ui p q hp hq, iu j hj uj p q hp hq]
        · rw [dot_comm, t3, dot_comm]
      -- no shift
      generalize ht : vsub (P (im i p0)) (P (im j p0)) = t
      have sh : ∀ q, isCor P m q → vsub (P (im i q)) (P (im j q)) = t := by
        intro q hq
        have := all p0 q cp0 hq
        have e1 := congrArg (fun t : V3 => t.1) this
        have e2 := congrArg (fun t : V3 => t.2.1) this
        have e3 := congrArg (fun t : V3 => t.2.2) this
        rw [← ht]
        simp only [vsub] at e1 e2 e3 ⊢
        refine v3ext ?_ ?_ ?_ <;> simp only <;> omega
      have t0 : t = vO := by
        obtain ⟨x, hx, x2⟩ := max_cor hm hD hs t
        obtain ⟨q, hq, rfl⟩ := sy_surj hD (L1 j hj) hx
        have a1 := x2 (im i q) ((L1 i hi).1 q hq).1
        have a2 : dot t (vsub (P (im i q)) (P (im j q))) = dot t t := by rw [sh q hq]
        rw [dot_sub] at a2
        have := dot_self_nonneg t
        exact dot_self_zero (by omega)
      refine L2 i j hi hj (fun q hq => ?_)
      have := sh q hq
      rw [t0, vO_iff] at this
      simp only [vsub] at this
      exact hD _ _ ((L1 i hi).1 q hq).1 ((L1 j hj).1 q hq).1 (v3ext (by omega) (by omega) (by omega))
    have sp := ct_split (fun i => H i ∧ U i = u) (fun i => dot (vcr a u) (vsub (P (im i q0)) (P (im i p0))) = dot (vcr a u) (vsub (P q0) (P p0))) N
    have c1 : ct (fun i => (H i ∧ U i = u) ∧ dot (vcr a u) (vsub (P (im i q0)) (P (im i p0))) = dot (vcr a u) (vsub (P q0) (P p0))) N = 1 := by
      refine ct_one he0 (fun i hi => ⟨fun h => ?_, fun h => ?_⟩)
      · refine same i e0 hi he0 h.1.1 He h.1.2 Ue ?_
        rw [h.2, ee q0 cq0, ee p0 cp0]
      · subst h
        refine ⟨⟨He, Ue⟩, ?_⟩
        rw [ee q0 cq0, ee p0 cp0]
    have opp : ∀ i, i < N → ((H i ∧ U i = u) ∧ ¬ dot (vcr a u) (vsub (P (im i q0)) (P (im i p0))) = dot (vcr a u) (vsub (P q0) (P p0))) → dot (vcr a u) (vsub (P (im i q0)) (P (im i p0))) = - dot (vcr a u) (vsub (P q0) (P p0)) := by
      intro i hi h
      have t := ww i hi h.1.1 h.1.2 p0 q0 p0 q0 cp0 cq0 cp0 cq0
      have f : (dot (vcr a u) (vsub (P (im i q0)) (P (im i p0))) - dot (vcr a u) (vsub (P q0) (P p0))) * (dot (vcr a u) (vsub (P (im i q0)) (P (im i p0))) + dot (vcr a u) (vsub (P q0) (P p0))) = 0 := by grind
      rcases Int.mul_eq_zero.1 f with g | g
      · exact absurd (by omega) h.2
      · omega
    by_cases x : ∃ j, j < N ∧ ((H j ∧ U j = u) ∧ ¬ dot (vcr a u) (vsub (P (im j q0)) (P (im j p0))) = dot (vcr a u) (vsub (P q0) (P p0)))
    · obtain ⟨j, hj, hh⟩ := x
      have c2 : ct (fun i => (H i ∧ U i = u) ∧ ¬ dot (vcr a u) (vsub (P (im i q0)) (P (im i p0))) = dot (vcr a u) (vsub (P q0) (P p0))) N = 1 := by
        refine ct_one hj (fun i hi => ⟨fun h => ?_, fun h => by subst h; exact hh⟩)
        refine same i j hi hj h.1.1 hh.1.1 h.1.2 hh.1.2 ?_
        rw [opp i hi h, opp j hj hh]
      right; omega
    · have c2 : ct (fun i => (H i ∧ U i = u) ∧ ¬ dot (vcr a u) (vsub (P (im i q0)) (P (im i p0))) = dot (vcr a u) (vsub (P q0) (P p0))) N = 0 := ct_none (fun i hi h => x ⟨i, hi, h⟩)
      left; omega
  have fin : ∀ n : Nat, (n = 1 ∨ n = 2 ∨ n = 3 ∨ n = 4 ∨ n = 6 ∨ n = 8 ∨ n = 12) → n ∣ 24 := by
    intro n h
    rcases h with rfl | rfl | rfl | rfl | rfl | rfl | rfl <;> decide
  exact fin _ (by omega)
