def aD (P : Nat → V3) (g : V3) (v a b : Nat) : V3 := vlc (dot g (P v) - dot g (P a)) (vsub (P b) (P v)) (dot g (P b) - dot g (P v)) (vsub (P a) (P v))
/-- a corner between lowest and highest is a middle, for each turn, of some face -/
theorem mid_has {P : Nat → V3} {m : Nat} (hm : m ≤ 14) (hs : Sol P m) {g : V3} {v : Nat} (hv : isCor P m v) (hlo : ∃ a, a < m ∧ dot g (P a) < dot g (P v)) (hhi : ∃ b, b < m ∧ dot g (P v) < dot g (P b)) (hg : ∀ k, k < m → k ≠ v → dot g (P k) ≠ dot g (P v)) {s : Int} (hs1 : s = 1 ∨ s = -1) : ∃ n l, isF P m n l ∧ mid P m g n l s v := by
  obtain ⟨hvm, c, hc⟩ := id hv
  obtain ⟨a0, a01, a02⟩ := hlo
  obtain ⟨b0, b01, b02⟩ := hhi
  -- c does not run along g
  have hcg : vcr c g ≠ vO := by
    intro e
    have key : ∀ u w : V3, dot c u * dot g w = dot c w * dot g u := by
      intro u w
      rw [vO_iff] at e; simp only [vcr] at e; obtain ⟨h1, h2, h3⟩ := e
      simp only [dot]; grind
    have q := key (vsub (P a0) (P v)) (vsub (P b0) (P v))
    rw [dot_sub, dot_sub, dot_sub, dot_sub] at q
    have x := hc a0 a01 (by rintro rfl; omega)
    have y := hc b0 b01 (by rintro rfl; omega)
    have t1 := Int.mul_neg_of_neg_of_pos (show dot c (P a0) - dot c (P v) < 0 by omega) (show 0 < dot g (P b0) - dot g (P v) by omega)
    have t2 := Int.mul_pos_of_neg_of_neg (show dot c (P b0) - dot c (P v) < 0 by omega) (show dot g (P a0) - dot g (P v) < 0 by omega)
    omega
  -- the second functional
  generalize hc2 : vlc s (vcr g c) 0 c = c2
  have hdet : dot c (vcr g c2) = - s * dot (vcr c g) (vcr c g) := by
    subst hc2
    simp only [dot, vcr, vlc]; grind
  have cg := dot_self_pos hcg
  have dD : ∀ f a b, dot f (aD P g v a b) = (dot g (P v) - dot g (P a)) * (dot f (P b) - dot f (P v)) + (dot g (P b) - dot g (P v)) * (dot f (P a) - dot f (P v)) := by
    intro f a b; simp only [aD]; rw [dot_lcr, dot_sub, dot_sub]
  -- the extreme pair
  obtain ⟨r, r1, ⟨ra, rb, rga, rgb⟩, r3, r4⟩ := rot (fun t => dot c2 (aD P g v (t / 14) (t % 14))) (fun t => - dot c (aD P g v (t / 14) (t % 14))) (fun t => t / 14 < m ∧ t % 14 < m ∧ dot g (P (t / 14)) < dot g (P v) ∧ dot g (P v) < dot g (P (t % 14))) 196
    (fun t ht h => by
      obtain ⟨h1, h2, h3, h4⟩ := h
      have x := hc _ h1 (by rintro e; rw [e] at h3; omega)
      have y := hc _ h2 (by rintro e; rw [e] at h4; omega)
      rw [dD]
      have t1 := Int.mul_neg_of_pos_of_neg (show 0 < dot g (P v) - dot g (P (t / 14)) by omega) (show dot c (P (t % 14)) - dot c (P v) < 0 by omega)
      have t2 := Int.mul_neg_of_pos_of_neg (show 0 < dot g (P (t % 14)) - dot g (P v) by omega) (show dot c (P (t / 14)) - dot c (P v) < 0 by omega)
      omega)
    (fun t ht h e => by
      obtain ⟨h1, h2, h3, h4⟩ := h
      have x := hc _ h1 (by rintro e; rw [e] at h3; omega)
      have y := hc _ h2 (by rintro e; rw [e] at h4; omega)
      rw [dD] at e
      have t1 := Int.mul_neg_of_pos_of_neg (show 0 < dot g (P v) - dot g (P (t / 14)) by omega) (show dot c (P (t % 14)) - dot c (P v) < 0 by omega)
      have t2 := Int.mul_neg_of_pos_of_neg (show 0 < dot g (P (t % 14)) - dot g (P v) by omega) (show dot c (P (t / 14)) - dot c (P v) < 0 by omega)
      omega)
    ⟨14 * a0 + b0, by omega, by
      rw [show (14 * a0 + b0) / 14 = a0 by omega, show (14 * a0 + b0) % 14 = b0 by omega]
      exact ⟨a01, b01, a02, b02⟩, by
      rw [show (14 * a0 + b0) / 14 = a0 by omega, show (14 * a0 + b0) % 14 = b0 by omega, dD]
      have x := hc a0 a01 (by rintro rfl; omega)
      have y := hc b0 b01 (by rintro rfl; omega)
      have t1 := Int.mul_neg_of_pos_of_neg (show 0 < dot g (P v) - dot g (P a0) by omega) (show dot c (P b0) - dot c (P v) < 0 by omega)
      have t2 := Int.mul_neg_of_pos_of_neg (show 0 < dot g (P b0) - dot g (P v) by omega) (show dot c (P a0) - dot c (P v) < 0 by omega)
      omega⟩
  generalize ha : r / 14 = a at *
  generalize hb : r % 14 = b at *
  generalize hY : - dot c (aD P g v a b) = Y at *
  generalize hX : dot c2 (aD P g v a b) = X at *
  -- its functional
  generalize hν : vlc Y c2 X c = ν
  have nD : ∀ a' b', a' < m → b' < m → dot g (P a') < dot g (P v) → dot g (P v) < dot g (P b') → 0 ≤ dot ν (aD P g v a' b') := by
    intro a' b' h1 h2 h3 h4
    have := r4 (14 * a' + b') (by omega) (by
      rw [show (14 * a' + b') / 14 = a' by omega, show (14 * a' + b') % 14 = b' by omega]; exact ⟨h1, h2, h3, h4⟩)
    rw [show (14 * a' + b') / 14 = a' by omega, show (14 * a' + b') % 14 = b' by omega] at this
    rw [← hν, dot_lc]; grind
  have nD0 : dot ν (aD P g v a b) = 0 := by
    rw [← hν, dot_lc, hX, show dot c (aD P g v a b) = -Y by omega]; grind
  generalize hn : vlc (-(dot g (P v) - dot g (P a))) ν (-(dot ν (P a) - dot ν (P v))) g = n
  have dn : ∀ k, dot n (P k) - dot n (P v) = -((dot g (P v) - dot g (P a)) * (dot ν (P k) - dot ν (P v))) - (dot ν (P a) - dot ν (P v)) * (dot g (P k) - dot g (P v)) := by
    intro k; rw [← hn, dot_lc, dot_lc]; grind
  have αp : 0 < dot g (P v) - dot g (P a) := by omega
  have βp : 0 < dot g (P b) - dot g (P v) := by omega
  rw [dD] at nD0
  have na : dot n (P a) = dot n (P v) := by have := dn a; grind
  have nb : dot n (P b) = dot n (P v) := by have := dn b; grind
  have sup : ∀ k, k < m → dot n (P k) ≤ dot n (P v) := by
    intro k hk
    by_cases e : k = v
    · subst e; omega
    have hgk := hg k hk e
    have := dn k
    rcases Int.lt_or_le (dot g (P v)) (dot g (P k)) with u | u
    · have q := nD a k ra hk rga u
      rw [dD] at q
      grind
    · have u' : dot g (P k) < dot g (P v) := by omega
      have q := nD k b hk rb u' rgb
      rw [dD] at q
      -- scaled by the other height
      have i : (dot g (P b) - dot g (P v)) * ((dot g (P v) - dot g (P a)) * (dot ν (P k) - dot ν (P v)) + (dot ν (P a) - dot ν (P v)) * (dot g (P k) - dot g (P v))) = (dot g (P v) - dot g (P a)) * ((dot g (P v) - dot g (P k)) * (dot ν (P b) - dot ν (P v)) + (dot g (P b) - dot g (P v)) * (dot ν (P k) - dot ν (P v))) - (dot g (P v) - dot g (P k)) * ((dot g (P v) - dot g (P a)) * (dot ν (P b) - dot ν (P v)) + (dot g (P b) - dot g (P v)) * (dot ν (P a) - dot ν (P v))) := by grind
      rw [nD0, Int.mul_zero, Int.sub_zero] at i
      have t := Int.mul_nonneg (Int.le_of_lt αp) q
      rw [← i] at t
      have t2 := Int.nonneg_of_mul_nonneg_right t βp
      omega
  -- it is one
  have hDne : aD P g v a b ≠ vO := by
    intro e; rw [e] at hY; simp [dot, vO] at hY; omega
  have Dg : aD P g v a b = vcr g (vcr (vsub (P a) (P v)) (vsub (P b) (P v))) := by
    simp only [aD]; rw [bac, dot_sub, dot_sub]; simp only [vlc]
    refine v3ext ?_ ?_ ?_ <;> simp only [vsub] <;> grind
  have hN : ncr P v a b ≠ vO := by
    intro e
    apply hDne
    rw [Dg, show vcr (vsub (P a) (P v)) (vsub (P b) (P v)) = vO from e]
    simp [vcr, vO]
  have n0 : n ≠ vO := by
    intro e
    -- then c and c2 and g would lie in one plane
    have z1 : dot c (vcr g n) = 0 := by rw [e]; simp [dot, vcr, vO]
    have z2 : dot c (vcr g n) = -(dot g (P v) - dot g (P a)) * (Y * dot c (vcr g c2)) := by
      rw [← hn, ← hν]
      generalize dot g (P v) - dot g (P a) = α
      generalize dot (vlc Y c2 X c) (P a) - dot (vlc Y c2 X c) (P v) = β
      simp only [dot, vcr, vlc]; grind
    rw [z1, hdet] at z2
    have : Y * (-s * dot (vcr c g) (vcr c g)) ≠ 0 := by
      rcases hs1 with rfl | rfl
      · have := Int.mul_pos r3 cg; grind
      · have := Int.mul_pos r3 cg; grind
    rcases Int.mul_eq_zero.1 z2.symm with q | q
    · omega
    · exact this q
  obtain ⟨k, k1, k2⟩ := sol_np hs n0 (dot n (P v))
  have f := F_mk n0 hvm ra rb sup na nb hN ⟨k, k1, by have := sup k k1; omega⟩
  refine ⟨_, _, f, rfl, a, b, ra, rb, (prim_eq0 n0).2 na, (prim_eq0 n0).2 nb, rga, rgb, ?_⟩
  -- the turn
  rw [swg_ncr, ncr_mid]
  have pa := perp_par (n := n) (a := vsub (P a) (P v)) (b := vsub (P b) (P v)) (by rw [dot_sub]; omega) (by rw [dot_sub]; omega)
  have key : dot n n * dot c (vcr g (ncr P v a b)) = dot n (ncr P v a b) * dot c (vcr g n) := by
    have pa' : vcr n (ncr P v a b) = vO := pa
    rw [vO_iff] at pa'; simp only [vcr] at pa'; obtain ⟨e1, e2, e3⟩ := pa'
    generalize ncr P v a b = N at *
    simp only [dot, vcr]; grind
  have cD : dot c (vcr g (ncr P v a b)) = -Y := by
    have : vcr g (ncr P v a b) = aD P g v a b := Dg.symm
    rw [this]; omega
  have cn : dot c (vcr g n) = -(dot g (P v) - dot g (P a)) * (Y * dot c (vcr g c2)) := by
    rw [← hn, ← hν]
    generalize dot g (P v) - dot g (P a) = α
    generalize dot (vlc Y c2 X c) (P a) - dot (vlc Y c2 X c) (P v) = β
    simp only [dot, vcr, vlc]; grind
  rw [cD, cn, hdet] at key
  have gp := (prim_mul n n0).1
  have e1 : dot n (ncr P v a b) = (gcd3 n : Int) * dot (prim n) (ncr P v a b) := dot_prim n _ n0
  have e2 : dot (prim n) (vneg (ncr P v a b)) = - dot (prim n) (ncr P v a b) := by rw [dot_comm, dot_neg, dot_comm]
  rw [e2]
  rw [e1] at key
  generalize dot (prim n) (ncr P v a b) = T at *
  generalize dot (vcr c g) (vcr c g) = C at *
  generalize dot g (P v) - dot g (P a) = α at *
  have np := dot_self_pos n0
  generalize dot n n = M at *
  -- M (-Y) = (G T) (-α (Y (-s C)))
  have key2 : (Y * M) + ((gcd3 n : Int) * α * C * Y) * (s * T) = 0 := by grind
  have p1 := Int.mul_pos r3 np
  have p2 : 0 < (gcd3 n : Int) * α * C * Y := Int.mul_pos (Int.mul_pos (Int.mul_pos (by omega) αp) cg) r3
  generalize (gcd3 n : Int) * α * C * Y = W at *
  have : s * -T = -(s * T) := by grind
  rw [this]
  rcases Int.lt_or_le (s * T) 0 with u | u
  · omega
  · have := Int.mul_nonneg (Int.le_of_lt p2) u; omega
/-- a corner turns one way alone in a face -/
theorem mid_not {P : Nat → V3} {m : Nat} {g n : V3} {l : Int} (hF : isF P m n l) {v : Nat} (hv : isCor P m v) (h : mid P m g n l 1 v) (h' : mid P m g n l (-1) v) : False := by
  obtain ⟨ev, a, b, ha, hb, ea, eb, ga, gb, sw⟩ := h
  obtain ⟨ev', a', b', ha', hb', ea', eb', ga', gb', sw'⟩ := h'
  obtain ⟨hvm, c, hc⟩ := hv
  rw [swg_ncr, ncr_mid] at sw sw'
  have pa := perp_par (n := n) (a := vsub (P a) (P v)) (b := vsub (P b) (P v)) (by rw [dot_sub]; omega) (by rw [dot_sub]; omega)
  have pa' := perp_par (n := n) (a := vsub (P a') (P v)) (b := vsub (P b') (P v)) (by rw [dot_sub]; omega) (by rw [dot_sub]; omega)
  have key : ∀ N : V3, vcr n N = vO → dot n n * dot c (vcr g N) = dot n N * dot c (vcr g n) := by
    intro N e
    rw [vO_iff] at e; simp only [vcr] at e; obtain ⟨e1, e2, e3⟩ := e
    simp only [dot, vcr]; grind
  have k1 := key _ pa
  have k2 := key _ pa'
  have dd : ∀ a b, dot c (vcr g (vcr (vsub (P a) (P v)) (vsub (P b) (P v)))) = (dot c (P a) - dot c (P v)) * (dot g (P b) - dot g (P v)) + (dot c (P b) - dot c (P v)) * (dot g (P v) - dot g (P a)) := by
    intro a b; simp only [dot, vcr, vsub]; grind
  rw [dd] at k1 k2
  have neg : ∀ n N : V3, dot n (vneg N) = - dot n N := by intro n N; simp only [dot, vneg]; grind
  have en : dot n (ncr P v a b) = dot n (vcr (vsub (P a) (P v)) (vsub (P b) (P v))) := rfl
  have en' : dot n (ncr P v a' b') = dot n (vcr (vsub (P a') (P v)) (vsub (P b') (P v))) := rfl
  rw [neg, en] at sw
  rw [neg, en'] at sw'
  have np := dot_self_pos (gcd3_ne hF.1)
  have x1 := hc a ha (by rintro rfl; omega)
  have x2 := hc b hb (by rintro rfl; omega)
  have x3 := hc a' ha' (by rintro rfl; omega)
  have x4 := hc b' hb' (by rintro rfl; omega)
  have t1 := Int.mul_neg_of_neg_of_pos (show dot c (P a) - dot c (P v) < 0 by omega) (show 0 < dot g (P b) - dot g (P v) by omega)
  have t2 := Int.mul_neg_of_neg_of_pos (show dot c (P b) - dot c (P v) < 0 by omega) (show 0 < dot g (P v) - dot g (P a) by omega)
  have t3 := Int.mul_neg_of_neg_of_pos (show dot c (P a') - dot c (P v) < 0 by omega) (show 0 < dot g (P b') - dot g (P v) by omega)
  have t4 := Int.mul_neg_of_neg_of_pos (show dot c (P b') - dot c (P v) < 0 by omega) (show 0 < dot g (P v) - dot g (P a') by omega)
  have u1 := Int.mul_neg_of_pos_of_neg np (show (dot c (P a) - dot c (P v)) * (dot g (P b) - dot g (P v)) + (dot c (P b) - dot c (P v)) * (dot g (P v) - dot g (P a)) < 0 by omega)
  have u2 := Int.mul_neg_of_pos_of_neg np (show (dot c (P a') - dot c (P v)) * (dot g (P b') - dot g (P v)) + (dot c (P b') - dot c (P v)) * (dot g (P v) - dot g (P a')) < 0 by omega)
  rw [k1] at u1
  rw [k2] at u2
  rcases Int.lt_or_le (dot c (vcr g n)) 0 with w | w
  · have := Int.mul_nonneg_of_nonpos_of_nonpos (show dot n (vcr (vsub (P a) (P v)) (vsub (P b) (P v))) ≤ 0 by omega) (Int.le_of_lt w); omega
  · have := Int.mul_nonneg (show 0 ≤ dot n (vcr (vsub (P a') (P v)) (vsub (P b') (P v))) by omega) w; omega
/-- the highest of a face is a corner -/
theorem hi_expo {P : Nat → V3} {m : Nat} {n : V3} {l : Int} (hF : isF P m n l) {g : V3} {v : Nat} (hv : fA P m n l v) (h : ∀ k, fA P m n l k → k ≠ v → dot g (P k) < dot g (P v)) : expo P (fA P m n l) n v := by
  refine ⟨hv, prj n g, prj_perp n g, fun k hk => ?_⟩
  by_cases e : k = v
  · subst e; exact Or.inl (sam_refl ..)
  · exact Or.inr ((prj_lt (gcd3_ne hF.1) hk hv).2 (h k hk e))
theorem ex_maxA (f : Nat → Int) (A : Nat → Prop) (m : Nat) (hA : ∃ k, k < m ∧ A k) : ∃ v, v < m ∧ A v ∧ ∀ k, k < m → A k → f k ≤ f v := by
  induction m with
  | zero => obtain ⟨k, h, _⟩ := hA; omega
  | succ m ih =>
    by_cases e : ∃ k, k < m ∧ A k
    · obtain ⟨v, h1, h2, h3⟩ := ih e
      by_cases c : A m ∧ f v < f m
      · exact ⟨m, by omega, c.1, fun k hk hA => by
          by_cases e : k = m
          · rw [e]; omega
          · have := h3 k (by omega) hA; omega⟩
      · exact ⟨v, by omega, h2, fun k hk hk' => by
          by_cases e : k = m
          · rw [e] at hk' ⊢
            rcases Int.lt_or_le (f v) (f m) with u | u
            · exact absurd ⟨hk', u⟩ c
            · exact u
          · exact h3 k (by omega) hk'⟩
    · obtain ⟨k, k1, k2⟩ := hA
      have : k = m := by
        apply Classical.byContradiction; intro h; exact e ⟨k, by omega, k2⟩
      subst this
      exact ⟨k, by omega, k2, fun j hj hA => by
        by_cases e' : j = k
        · rw [e']; omega
        · exact absurd ⟨j, by omega, hA⟩ e⟩
/-- all but two corners of a face are middles -/
theorem mid_face {P : Nat → V3} {m : Nat} (hm : m ≤ 14) (hD : Dis P m) {g n : V3} {l : Int} (hg : ∀ j k, j < m → k < m → dot g (P j) = dot g (P k) → j = k) (hF : isF P m n l) {R : Nat → Nat} {L : Nat} (hR : rnd P (fA P m n l) n R L) : ct (fun v => isCor P m v ∧ (mid P m g n l 1 v ∨ mid P m g n l (-1) v)) 14 + 2 = L := by
  obtain ⟨x0, y0, z0, hx0, _⟩ := F_tri hF
  obtain ⟨hi, hi1, hi2, hi3⟩ := ex_maxA (fun k => dot g (P k)) (fA P m n l) m ⟨x0, hx0.1, hx0⟩
  obtain ⟨lo, lo1, lo2, lo3⟩ := ex_maxA (fun k => - dot g (P k)) (fA P m n l) m ⟨x0, hx0.1, hx0⟩
  have hiS : ∀ k, fA P m n l k → k ≠ hi → dot g (P k) < dot g (P hi) := by
    intro k hk hne
    have := hi3 k hk.1 hk
    have : dot g (P k) ≠ dot g (P hi) := fun e => hne (hg k hi hk.1 hi1 e)
    omega
  have loS : ∀ k, fA P m n l k → k ≠ lo → dot g (P lo) < dot g (P k) := by
    intro k hk hne
    have := lo3 k hk.1 hk
    have : dot g (P k) ≠ dot g (P lo) := fun e => hne (hg k lo hk.1 lo1 e)
    omega
  have xhi := hi_expo hF hi2 hiS
  have xlo : expo P (fA P m n l) n lo := hi_expo (g := vneg g) hF lo2 (fun k hk hne => by rw [dot_neg, dot_neg]; have := loS k hk hne; omega)
  have hne : hi ≠ lo := by
    intro e
    obtain ⟨l3, ex, inj, _⟩ := hR
    have all : ∀ k, fA P m n l k → k = hi := by
      intro k hk
      apply Classical.byContradiction
      intro h
      have a := hiS k hk h
      have b := loS k hk (e ▸ h)
      rw [← e] at b; omega
    have := inj 0 1 (by omega) (by omega) ((all _ (ex 0 (by omega)).1).trans (all _ (ex 1 (by omega)).1).symm)
    omega
  -- the corners of the face
  have cL : ct (fun v => expo P (fA P m n l) n v) 14 = L := by
    have := ct_bij (p := fun _ => True) (q := fun v => expo P (fA P m n l) n v) (N := L) (M := 14) (fun k v => R k = v)
      (fun k hk _ => ⟨R k, by have := (hR.2.1 k hk).1.1; omega, hR.2.1 k hk, rfl⟩)
      (fun v hv h => by obtain ⟨k, k1, k2⟩ := hR.2.2.2.1 v h; exact ⟨k, k1, trivial, k2⟩)
      (fun i k v hi' hk _ _ _ a b => hR.2.2.1 i k hi' hk (a.trans b.symm))
      (fun k v w _ _ _ _ _ a b => a.symm.trans b)
    rw [ct_all] at this; exact this.symm
  have c1 := ct_pop (q := fun v => expo P (fA P m n l) n v) (M := 14) (j := hi) (by omega) xhi
  have c2 := ct_pop (q := fun v => expo P (fA P m n l) n v ∧ v ≠ hi) (M := 14) (j := lo) (by omega) ⟨xlo, fun e => hne e.symm⟩
  have c3 := ct_congr (N := 14) (p := fun v => isCor P m v ∧ (mid P m g n l 1 v ∨ mid P m g n l (-1) v)) (q := fun v => (expo P (fA P m n l) n v ∧ v ≠ hi) ∧ v ≠ lo) (fun v hv => by
    constructor
    · rintro ⟨cv, h⟩
      have hx : ∀ s, mid P m g n l s v → expo P (fA P m n l) n v ∧ v ≠ hi ∧ v ≠ lo := by
        rintro s ⟨ev, a, b, ha, hb, ea, eb, ga, gb, _⟩
        refine ⟨expo_of hF ⟨cv.1, ev⟩ cv, ?_, ?_⟩
        · rintro rfl; have := hi3 b hb ⟨hb, eb⟩; omega
        · rintro rfl; have := lo3 a ha ⟨ha, ea⟩; omega
      rcases h with h | h
      · have := hx _ h; exact ⟨⟨this.1, this.2.1⟩, this.2.2⟩
      · have := hx _ h; exact ⟨⟨this.1, this.2.1⟩, this.2.2⟩
    · rintro ⟨⟨hx, h1⟩, h2⟩
      refine ⟨cor_of hD hF hx, ?_⟩
      have g1 := hiS v hx.1 h1
      have g2 := loS v hx.1 h2
      have nz : swg P lo v hi n ≠ 0 := by
        intro e
        -- v would lie between
        have z : swg P lo hi v n = 0 := by rw [swg_anti]; omega
        have nn := gcd3_ne hF.1
        have pl : ∀ c, dot c n = 0 → spr P lo hi n * (dot c (P v) - dot c (P lo)) = dot (vcr (vsub (P hi) (P lo)) n) (vcr (vsub (P v) (P lo)) n) * (dot c (P hi) - dot c (P lo)) := fun c hc => col1 nn hc z
        have q := pl _ (prj_perp n g)
        have p1 := (prj_lt nn lo2 hx.1 (c := g)).2 g2
        have p2 := (prj_lt nn hx.1 hi2 (c := g)).2 g1
        have U0 := spr_nonneg P lo hi n
        have Up : 0 < spr P lo hi n := by
          rcases Int.lt_or_eq_of_le U0 with u | u
          · exact u
          · exact absurd (F_sam hD hF lo2 hi2 (show sam P n lo hi from u.symm)).symm hne
        generalize dot (vcr (vsub (P hi) (P lo)) n) (vcr (vsub (P v) (P lo)) n) = D at *
        generalize spr P lo hi n = U at *
        have D0 : 0 ≤ D := by
          rcases Int.lt_or_le D 0 with u | u
          · have := Int.mul_neg_of_neg_of_pos u (show 0 < dot (prj n g) (P hi) - dot (prj n g) (P lo) by omega)
            have := Int.mul_nonneg U0 (show 0 ≤ dot (prj n g) (P v) - dot (prj n g) (P lo) by omega)
            omega
          · exact u
        have DU : D ≤ U := by
          rcases Int.lt_or_le U D with u | u
          · have a := Int.mul_lt_mul_of_pos_right u (show 0 < dot (prj n g) (P hi) - dot (prj n g) (P lo) by omega)
            have b := Int.mul_le_mul_of_nonneg_left (show dot (prj n g) (P v) - dot (prj n g) (P lo) ≤ dot (prj n g) (P hi) - dot (prj n g) (P lo) by omega) U0
            omega
          · exact u
        have ns : ∀ {k}, fA P m n l k → k ≠ v → ¬ sam P n v k := fun hk hkv e => hkv (F_sam hD hF hx.1 hk e).symm
        exact no_btw hx lo2 hi2 (ns lo2 (fun e => h2 e.symm)) (ns hi2 (fun e => h1 e.symm)) (s := U - D) (t := D) (by omega) (by omega) (by omega) (fun c hc => by have := pl c hc; grind)
      rcases Int.lt_trichotomy (swg P lo v hi n) 0 with u | u | u
      · exact Or.inr ⟨hx.1.2, lo, hi, lo1, hi1, lo2.2, hi2.2, g2, g1, by omega⟩
      · exact absurd u nz
      · exact Or.inl ⟨hx.1.2, lo, hi, lo1, hi1, lo2.2, hi2.2, g2, g1, by omega⟩)
  omega
/-- how many corners -/
noncomputable def nV (P : Nat → V3) (m : Nat) : Nat := ct (isCor P m) 14
/-- Euler's formula -/
theorem euler {P : Nat → V3} {m : Nat} (hm : m ≤ 14) (hb : ∀ j, j < m → vbd 20 (P j)) (hD : Dis P m) (hs : Sol P m) : nV P m + (blF P m).1 = nE P m + 2 := by
  obtain ⟨⟨c1, c2, c3, c4⟩, call⟩ := blF_spec hm hb hD
  have hg := gV_inj hb hD
  have hsum := sum_len hm hb hD
  have a : sm (fun i => fLen P m i) (blF P m).1 = sm (fun i => ct (fun v => isCor P m v ∧ (mid P m gV ((blF P m).2 i).1 ((blF P m).2 i).2.1 1 v ∨ mid P m gV ((blF P m).2 i).1 ((blF P m).2 i).2.1 (-1) v)) 14) (blF P m).1 + 2 * (blF P m).1 := by
    rw [← sm_const 2, ← sm_add]
    exact sm_congr (fun i hi => (mid_face hm hD hg (c2 i hi).1 (c2 i hi).2.2.1).symm)
  rw [sm_swap] at a
  obtain ⟨hi, hi1, hi2⟩ := max_cor hm hD hs gV
  obtain ⟨lo, lo1, lo2⟩ := max_cor hm hD hs (vneg gV)
  have lo2' : ∀ k, k < m → dot gV (P lo) ≤ dot gV (P k) := fun k hk => by have := lo2 k hk; rw [dot_neg, dot_neg] at this; omega
  have hne : hi ≠ lo := by
    rintro rfl
    obtain ⟨k, k1, k2⟩ := sol_np hs (n := gV) (by simp [gV, vO]) (dot gV (P hi))
    have := hi2 k k1; have := lo2' k k1; omega
  have b : sm (fun v => ct (fun i => isCor P m v ∧ (mid P m gV ((blF P m).2 i).1 ((blF P m).2 i).2.1 1 v ∨ mid P m gV ((blF P m).2 i).1 ((blF P m).2 i).2.1 (-1) v)) (blF P m).1) 14 = sm (fun v => @ite Nat ((isCor P m v ∧ v ≠ hi) ∧ v ≠ lo) (Classical.propDecidable _) 2 0) 14 := by
    refine sm_congr (fun v hv => ?_)
    by_cases h : (isCor P m v ∧ v ≠ hi) ∧ v ≠ lo
    · rw [if_pos h]
      obtain ⟨⟨cv, h1⟩, h2⟩ := h
      have low : ∃ a, a < m ∧ dot gV (P a) < dot gV (P v) := ⟨lo, lo1.1, by
        have x := lo2' v cv.1
        have : dot gV (P lo) ≠ dot gV (P v) := fun e => h2 (hg lo v lo1.1 cv.1 e).symm
        omega⟩
      have high : ∃ a, a < m ∧ dot gV (P v) < dot gV (P a) := ⟨hi, hi1.1, by
        have x := hi2 v cv.1
        have : dot gV (P hi) ≠ dot gV (P v) := fun e => h1 (hg hi v hi1.1 cv.1 e).symm
        omega⟩
      have gne : ∀ k, k < m → k ≠ v → dot gV (P k) ≠ dot gV (P v) := fun k hk hne e => hne (hg k v hk cv.1 e)
      have one : ∀ s : Int, s = 1 ∨ s = -1 → ct (fun i => mid P m gV ((blF P m).2 i).1 ((blF P m).2 i).2.1 s v) (blF P m).1 = 1 := by
        intro s hs1
        obtain ⟨n, l, hF, hmid⟩ := mid_has hm hs cv low high gne hs1
        obtain ⟨i, i1, i2, i3⟩ := call n l hF
        refine ct_one i1 (fun j hj => ⟨fun hh => ?_, fun e => ?_⟩)
        · exact c3 j i hj i1 ((mid_uni cv.1 hs1 (c2 j hj).1 hF hh hmid).1.trans i2.symm)
        · subst e; rw [i2, i3]; exact hmid
      have sp := ct_split (fun i => isCor P m v ∧ (mid P m gV ((blF P m).2 i).1 ((blF P m).2 i).2.1 1 v ∨ mid P m gV ((blF P m).2 i).1 ((blF P m).2 i).2.1 (-1) v)) (fun i => mid P m gV ((blF P m).2 i).1 ((blF P m).2 i).2.1 1 v) (blF P m).1
      have s1 := ct_congr (N := (blF P m).1) (p := fun i => (isCor P m v ∧ (mid P m gV ((blF P m).2 i).1 ((blF P m).2 i).2.1 1 v ∨ mid P m gV ((blF P m).2 i).1 ((blF P m).2 i).2.1 (-1) v)) ∧ mid P m gV ((blF P m).2 i).1 ((blF P m).2 i).2.1 1 v) (q := fun i => mid P m gV ((blF P m).2 i).1 ((blF P m).2 i).2.1 1 v) (fun i _ => ⟨fun h => h.2, fun h => ⟨⟨cv, Or.inl h⟩, h⟩⟩)
      have s2 := ct_congr (N := (blF P m).1) (p := fun i => (isCor P m v ∧ (mid P m gV ((blF P m).2 i).1 ((blF P m).2 i).2.1 1 v ∨ mid P m gV ((blF P m).2 i).1 ((blF P m).2 i).2.1 (-1) v)) ∧ ¬ mid P m gV ((blF P m).2 i).1 ((blF P m).2 i).2.1 1 v) (q := fun i => mid P m gV ((blF P m).2 i).1 ((blF P m).2 i).2.1 (-1) v) (fun i hi' => ⟨fun h => h.1.2.resolve_left h.2, fun h => ⟨⟨cv, Or.inr h⟩, fun h' => mid_not (c2 i hi').1 cv h' h⟩⟩)
      rw [sp, s1, s2, one 1 (Or.inl rfl), one (-1) (Or.inr rfl)]
    · rw [if_neg h]
      refine ct_none (fun i hi' hh => h ?_)
      obtain ⟨cv, hh⟩ := hh
      have hx : ∀ s, mid P m gV ((blF P m).2 i).1 ((blF P m).2 i).2.1 s v → v ≠ hi ∧ v ≠ lo := by
        rintro s ⟨ev, a, b, ha, hb', ea, eb, ga, gb, _⟩
        refine ⟨?_, ?_⟩
        · rintro rfl; have := hi2 b hb'; omega
        · rintro rfl; have := lo2' a ha; omega
      rcases hh with hh | hh
      · exact ⟨⟨cv, (hx _ hh).1⟩, (hx _ hh).2⟩
      · exact ⟨⟨cv, (hx _ hh).1⟩, (hx _ hh).2⟩
  rw [b, sm_ct, hsum] at a
  have p1 := ct_pop (q := isCor P m) (M := 14) (j := hi) (by have := hi1.1; omega) hi1
  have p2 := ct_pop (q := fun v => isCor P m v ∧ v ≠ hi) (M := 14) (j := lo) (by have := lo1.1; omega) ⟨lo1, fun e => hne e.symm⟩
  have eV : nV P m = ct (isCor P m) 14 := rfl
  omega
