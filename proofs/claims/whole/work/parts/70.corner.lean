/-- a corner of the solid: alone farthest in some direction -/
def isCor (P : Nat → V3) (m v : Nat) : Prop := v < m ∧ ∃ c, ∀ k, k < m → k ≠ v → dot c (P k) < dot c (P v)
theorem F_par {P : Nat → V3} {m : Nat} {n n' : V3} {l l' : Int} (h : isF P m n l) (h' : isF P m n' l') {v : Nat} (hv : fA P m n l v) (hv' : fA P m n' l' v) (c : vcr n n' = vO) : n = n' ∧ l = l' := by
  obtain ⟨_, _, _, p, q, r, hp, hq, hr, ep, eq, er, hN⟩ := id h
  have nn := gcd3_ne h.1
  have on : ∀ w, dot n (P w) = l → dot n' (P w) = l' := by
    intro w hw
    have := par_dot (n := n) (N := n') (e := vsub (P w) (P v)) nn c (by rw [dot_sub, hv.2]; omega)
    rw [dot_sub, hv'.2] at this; omega
  exact F_uni h h' hN ep eq er (on p ep) (on q eq) (on r er)
/-- a face's corners are the solid's in it -/
theorem cor_of {P : Nat → V3} {m : Nat} (hD : Dis P m) {n : V3} {l : Int} (hF : isF P m n l) {v : Nat} (h : expo P (fA P m n l) n v) : isCor P m v := by
  obtain ⟨hv, c, c1, c2⟩ := h
  refine ⟨hv.1, ?_⟩
  obtain ⟨K, K0, K1⟩ := ex_big (fun k => l - dot n (P k)) (fun k => dot c (P k) - dot c (P v)) m
  refine ⟨vlc K n 1 c, fun k hk hne => ?_⟩
  rw [dot_lc, dot_lc, hv.2]
  have sup := hF.2.1 k hk
  by_cases e : dot n (P k) = l
  · have hk' : fA P m n l k := ⟨hk, e⟩
    have := (c2 k hk').resolve_left (fun s => hne (F_sam hD hF hv hk' s).symm)
    rw [e]; omega
  · have a := K1 k hk (by omega)
    have b : K * (l - dot n (P k)) = K * l - K * dot n (P k) := by grind
    omega
theorem expo_of {P : Nat → V3} {m : Nat} {n : V3} {l : Int} (hF : isF P m n l) {v : Nat} (hv : fA P m n l v) (h : isCor P m v) : expo P (fA P m n l) n v := by
  obtain ⟨_, c, c2⟩ := h
  refine ⟨hv, vlc (dot n n) c (-(dot c n)) n, ?_, fun k hk => ?_⟩
  · rw [dot_lc]; grind
  · by_cases e : k = v
    · subst e; exact Or.inl (sam_refl ..)
    · right
      rw [dot_lc, dot_lc, hk.2, hv.2]
      have := Int.mul_lt_mul_of_pos_left (c2 k hk.1 e) (dot_self_pos (gcd3_ne hF.1))
      omega
theorem expo_cor {P : Nat → V3} {m : Nat} (hD : Dis P m) {n : V3} {l : Int} (hF : isF P m n l) {v : Nat} : expo P (fA P m n l) n v ↔ fA P m n l v ∧ isCor P m v :=
  ⟨fun h => ⟨h.1, cor_of hD hF h⟩, fun h => expo_of hF h.1 h.2⟩
/-- each face has its round -/
theorem F_rnd {P : Nat → V3} {m : Nat} (hm : m ≤ 14) (hD : Dis P m) {n : V3} {l : Int} (hF : isF P m n l) : ∃ R L, rnd P (fA P m n l) n R L := by
  have hS : ∀ k, (bts (fun k => decide (dot n (P k) = l)) m).testBit k = true ↔ fA P m n l k := by
    intro k; rw [bts_spec, decide_eq_true_eq]; exact Iff.rfl
  have e := bA2_fA hm hS
  have t := nfT_spec (P := P) (S := bts (fun k => decide (dot n (P k) = l)) m) (d := n) (gcd3_ne hF.1) (by rw [e]; exact F_tri hF) (by rw [e]; exact fun j k hj hk hs => F_sam hD hF hj hk hs) (fun _ => 0)
  rw [e] at t
  exact ⟨_, _, t.1⟩
/-- behind an edge of a face lies another one -/
theorem F_ridge {P : Nat → V3} {m : Nat} {n : V3} {l : Int} (hF : isF P m n l) {p q : Nat} (hp : fA P m n l p) (h : nxt P (fA P m n l) n p q) : ∃ n' l', isF P m n' l' ∧ fA P m n' l' p ∧ fA P m n' l' q ∧ n' ≠ n := by
  have nn := gcd3_ne hF.1
  have e0 : dot n (vsub (P q) (P p)) = 0 := by rw [dot_sub, hp.2, h.1.2]; omega
  have en : vsub (P q) (P p) ≠ vO := fun e => h.2.1 (sam_mk (by rw [e]; simp [vcr, vO]))
  have c0 := cr_ne nn en e0
  obtain ⟨r, r1, r2, n', hn', n1, n2, n3, n4, n5⟩ := rotS (F_sol hF) hp.1 (n := n) (c := vneg (vcr n (vsub (P q) (P p)))) (v := p) (fun k hk => by rw [hp.2]; exact hF.2.1 k hk) (by
    intro e
    exact cr_ne (fun e => c0 (vneg_O.1 e)) nn (by rw [dot_neg, dot_comm, dot_vcr_l]; omega) e) (fun k hk e => by
    have := nxt_ge nn h k ⟨hk, by rw [e, hp.2]⟩
    rw [swg_fun] at this
    rw [dot_neg, dot_neg]; omega)
  have hq : dot n' (P q) = dot n' (P p) := n4 q (by rw [h.1.2, hp.2]) (by
    have := swg_fun P p q q n
    rw [swg_pp] at this
    rw [dot_neg, dot_neg]; omega)
  have hN : ncr P p q r ≠ vO := by
    intro e
    have := par_dot (e := n) en e (by rw [dot_comm]; exact e0)
    rw [dot_comm, dot_sub] at this; omega
  have f := F_mk n1 hp.1 h.1.1 r1 n2 hq n3 hN n5
  refine ⟨_, _, f, ⟨hp.1, rfl⟩, ⟨h.1.1, (prim_eq0 n1).2 hq⟩, ?_⟩
  intro e
  have a : dot (prim n') (P r) = dot (prim n') (P p) := (prim_eq0 n1).2 n3
  rw [e] at a; omega
/-- two points lie in at most two faces -/
theorem F_two {P : Nat → V3} {m : Nat} {n1 n2 n3 : V3} {l1 l2 l3 : Int} (h1 : isF P m n1 l1) (h2 : isF P m n2 l2) (h3 : isF P m n3 l3) {v k : Nat} (hne : P k ≠ P v)
    (v1 : fA P m n1 l1 v) (v2 : fA P m n2 l2 v) (v3 : fA P m n3 l3 v) (k1 : fA P m n1 l1 k) (k2 : fA P m n2 l2 k) (k3 : fA P m n3 l3 k) : n1 = n2 ∨ n2 = n3 ∨ n1 = n3 := by
  have en : vsub (P k) (P v) ≠ vO := by
    intro e; rw [vO_iff] at e; simp only [vsub] at e
    exact hne (v3ext (by omega) (by omega) (by omega))
  have e1 : dot n1 (vsub (P k) (P v)) = 0 := by rw [dot_sub, k1.2, v1.2]; omega
  have e2 : dot n2 (vsub (P k) (P v)) = 0 := by rw [dot_sub, k2.2, v2.2]; omega
  have e3 : dot n3 (vsub (P k) (P v)) = 0 := by rw [dot_sub, k3.2, v3.2]; omega
  generalize he : vsub (P k) (P v) = e at *
  have D0 : dot n1 (vcr n2 n3) = 0 := by
    have i : dot n1 (vcr n2 n3) * dot e e = dot e (vcr n2 n3) * dot n1 e + dot n1 (vcr e n3) * dot n2 e + dot n1 (vcr n2 e) * dot n3 e := by
      simp only [dot, vcr]; grind
    rw [e1, e2, e3] at i
    have := dot_self_pos en
    exact (Int.mul_eq_zero.1 (show dot n1 (vcr n2 n3) * dot e e = 0 by omega)).resolve_right (by omega)
  have rel : ∀ w, dot e (vcr n2 n3) * dot n1 w + dot e (vcr n3 n1) * dot n2 w + dot e (vcr n1 n2) * dot n3 w = 0 := by
    intro w
    have i : dot e (vcr n2 n3) * dot n1 w + dot e (vcr n3 n1) * dot n2 w + dot e (vcr n1 n2) * dot n3 w = dot n1 (vcr n2 n3) * dot e w := by
      simp only [dot, vcr]; grind
    rw [i, D0, Int.zero_mul]
  have z : ∀ n n' : V3, dot n e = 0 → dot n' e = 0 → dot e (vcr n n') = 0 → vcr n n' = vO := by
    intro n n' a b c
    have pp := perp_par (n := e) (a := n) (b := n') (by rw [dot_comm]; exact a) (by rw [dot_comm]; exact b)
    exact dot_self_zero (par_dot (e := vcr n n') en pp c)
  by_cases a0 : dot e (vcr n2 n3) = 0
  · exact Or.inr (Or.inl (F_par h2 h3 v2 v3 (z _ _ e2 e3 a0)).1)
  by_cases b0 : dot e (vcr n3 n1) = 0
  · exact Or.inr (Or.inr (F_par h3 h1 v3 v1 (z _ _ e3 e1 b0)).1.symm)
  by_cases c0 : dot e (vcr n1 n2) = 0
  · exact Or.inl (F_par h1 h2 v1 v2 (z _ _ e1 e2 c0)).1
  -- heights
  have hr : ∀ w, dot e (vcr n2 n3) * (l1 - dot n1 (P w)) + dot e (vcr n3 n1) * (l2 - dot n2 (P w)) + dot e (vcr n1 n2) * (l3 - dot n3 (P w)) = 0 := by
    intro w
    have a := rel (P v)
    have b := rel (P w)
    rw [v1.2, v2.2, v3.2] at a
    grind
  generalize dot e (vcr n2 n3) = α at *
  generalize dot e (vcr n3 n1) = β at *
  generalize dot e (vcr n1 n2) = γ at *
  -- the middle one's plane meets no more than both others' do
  have mid3 : ∀ (n1 n2 n3 : V3) (l1 l2 l3 : Int) (α β γ : Int), isF P m n1 l1 → isF P m n2 l2 → isF P m n3 l3 → (∀ w, α * (l1 - dot n1 (P w)) + β * (l2 - dot n2 (P w)) + γ * (l3 - dot n3 (P w)) = 0) → 0 < α → 0 < β → n1 = n2 := by
    intro n1 n2 n3 l1 l2 l3 α β γ h1 h2 h3 hr ha hb
    obtain ⟨_, _, _, p, q, r, hp, hq, hr', ep, eq, er, hN⟩ := id h3
    have on : ∀ w, w < m → dot n3 (P w) = l3 → dot n1 (P w) = l1 ∧ dot n2 (P w) = l2 := by
      intro w hw e
      have a := hr w
      rw [e, Int.sub_self, Int.mul_zero, Int.add_zero] at a
      have s1 := h1.2.1 w hw
      have s2 := h2.2.1 w hw
      have t1 := Int.mul_nonneg (Int.le_of_lt ha) (show 0 ≤ l1 - dot n1 (P w) by omega)
      have t2 := Int.mul_nonneg (Int.le_of_lt hb) (show 0 ≤ l2 - dot n2 (P w) by omega)
      have u1 := (Int.mul_eq_zero.1 (show α * (l1 - dot n1 (P w)) = 0 by omega)).resolve_left (by omega)
      have u2 := (Int.mul_eq_zero.1 (show β * (l2 - dot n2 (P w)) = 0 by omega)).resolve_left (by omega)
      omega
    exact (F_uni h1 h2 hN (on p hp ep).1 (on q hq eq).1 (on r hr' er).1 (on p hp ep).2 (on q hq eq).2 (on r hr' er).2).1
  have neg : ∀ w, (-α) * (l1 - dot n1 (P w)) + (-β) * (l2 - dot n2 (P w)) + (-γ) * (l3 - dot n3 (P w)) = 0 := by
    intro w; have := hr w; grind
  rcases Int.lt_or_le 0 α with ha | ha <;> rcases Int.lt_or_le 0 β with hb | hb <;> rcases Int.lt_or_le 0 γ with hc | hc
  · exact Or.inl (mid3 _ _ _ _ _ _ _ _ _ h1 h2 h3 hr ha hb)
  · exact Or.inl (mid3 _ _ _ _ _ _ _ _ _ h1 h2 h3 hr ha hb)
  · exact Or.inr (Or.inr (mid3 n1 n3 n2 l1 l3 l2 α γ β h1 h3 h2 (fun w => by have := hr w; omega) ha hc))
  · exact Or.inr (Or.inl (mid3 n2 n3 n1 l2 l3 l1 (-β) (-γ) (-α) h2 h3 h1 (fun w => by have := neg w; omega) (by omega) (by omega)))
  · exact Or.inr (Or.inl (mid3 n2 n3 n1 l2 l3 l1 β γ α h2 h3 h1 (fun w => by have := hr w; omega) hb hc))
  · exact Or.inr (Or.inr (mid3 n1 n3 n2 l1 l3 l2 (-α) (-γ) (-β) h1 h3 h2 (fun w => by have := neg w; omega) (by omega) (by omega)))
  · exact Or.inl (mid3 _ _ _ _ _ _ _ _ _ h1 h2 h3 neg (by omega) (by omega))
  · exact Or.inl (mid3 _ _ _ _ _ _ _ _ _ h1 h2 h3 neg (by omega) (by omega))
/-- three faces meet in a corner -/
theorem cor_3F {P : Nat → V3} {m : Nat} (hD : Dis P m) {n1 n2 n3 : V3} {l1 l2 l3 : Int} (h1 : isF P m n1 l1) (h2 : isF P m n2 l2) (h3 : isF P m n3 l3) {v : Nat} (v1 : fA P m n1 l1 v) (v2 : fA P m n2 l2 v) (v3 : fA P m n3 l3 v) (d12 : n1 ≠ n2) (d23 : n2 ≠ n3) (d13 : n1 ≠ n3) : isCor P m v := by
  refine ⟨v1.1, vlc 1 (vlc 1 n1 1 n2) 1 n3, fun k hk hne => ?_⟩
  rw [dot_lc, dot_lc, dot_lc, dot_lc, v1.2, v2.2, v3.2]
  have s1 := h1.2.1 k hk; have s2 := h2.2.1 k hk; have s3 := h3.2.1 k hk
  apply Classical.byContradiction
  intro e
  have := F_two h1 h2 h3 (v := v) (k := k) (fun e => hne (hD k v hk v1.1 e)) v1 v2 v3 ⟨hk, by omega⟩ ⟨hk, by omega⟩ ⟨hk, by omega⟩
  rcases this with h | h | h
  · exact d12 h
  · exact d23 h
  · exact d13 h
/-- the ones before and behind a corner in its face -/
theorem rnd_at {P : Nat → V3} {A : Nat → Prop} {d : V3} {R : Nat → Nat} {L : Nat} (h : rnd P A d R L) {v : Nat} (hv : expo P A d v) : ∃ a b, expo P A d a ∧ expo P A d b ∧ nxt P A d a v ∧ nxt P A d v b ∧ a ≠ b ∧ a ≠ v ∧ b ≠ v := by
  obtain ⟨⟨l3, _⟩, ex, inj, cov, _, nx, nl⟩ := h
  obtain ⟨k, hk, rfl⟩ := cov v hv
  have nn : ∀ i, i < L → nxt P A d (R i) (R (if i + 1 < L then i + 1 else 0)) := by
    intro i hi
    split
    · rename_i e; exact nx i e
    · rename_i e
      have : i = L - 1 := by omega
      subst this; exact nl
  have key : ∀ i, i < L → (if i + 1 < L then i + 1 else 0) < L := by intro i hi; split <;> omega
  by_cases e0 : k = 0
  · subst e0
    refine ⟨R (L - 1), R 1, ex _ (by omega), ex _ (by omega), nl, nx 0 (by omega), fun e => ?_, fun e => ?_, fun e => ?_⟩
    · have := inj _ _ (by omega) (by omega) e; omega
    · have := inj _ _ (by omega) (by omega) e; omega
    · have := inj _ _ (by omega) (by omega) e; omega
  · have n1 := nx (k - 1) (by omega)
    rw [show k - 1 + 1 = k by omega] at n1
    refine ⟨R (k - 1), R (if k + 1 < L then k + 1 else 0), ex _ (by omega), ex _ (key k hk), n1, nn k hk, fun e => ?_, fun e => ?_, fun e => ?_⟩
    · have := inj _ _ (by omega) (key k hk) e; split at this <;> omega
    · have := inj _ _ (by omega) (by omega) e; omega
    · have := inj _ _ (key k hk) (by omega) e; split at this <;> omega
theorem nxt_det {P : Nat → V3} {A : Nat → Prop} {d : V3} (hd : d ≠ vO) {p q q' : Nat} (hp : expo P A d p) (h : nxt P A d p q) (h' : nxt P A d p q') : sam P d q q' := by
  obtain ⟨_, c, c1, c2⟩ := hp
  have a := nxt_ge hd h q' h'.1
  have b := nxt_ge hd h' q h.1
  rw [swg_anti] at b
  have z : swg P p q q' d = 0 := by omega
  have z' : swg P p q' q d = 0 := by rw [swg_anti]; omega
  have s1 : spr P p q' d ≤ spr P p q d := by rcases h.2.2 q' h'.1 h'.2.1 with h | h <;> omega
  have s2 : spr P p q d ≤ spr P p q' d := by rcases h'.2.2 q h.1 h.2.1 with h | h <;> omega
  have x := (c2 q h.1).resolve_left h.2.1
  have y := (c2 q' h'.1).resolve_left h'.2.1
  obtain ⟨u1, u2⟩ := col_cmp hd c1 z x y s1
  obtain ⟨w1, w2⟩ := col_cmp hd c1 z' y x s2
  exact w2 (by omega)
/-- a corner lies in three faces at least -/
theorem cor_has {P : Nat → V3} {m : Nat} (hm : m ≤ 14) (hD : Dis P m) (hs : Sol P m) {v : Nat} (h : isCor P m v) : ∃ n1 l1 n2 l2 n3 l3, isF P m n1 l1 ∧ isF P m n2 l2 ∧ isF P m n3 l3 ∧ fA P m n1 l1 v ∧ fA P m n2 l2 v ∧ fA P m n3 l3 v ∧ n1 ≠ n2 ∧ n2 ≠ n3 ∧ n1 ≠ n3 := by
  obtain ⟨hv, c, hc⟩ := id h
  have c0 : c ≠ vO := by
    rintro rfl
    obtain ⟨k, k1, k2⟩ := sol_np hs (n := (1, 0, 0)) (by simp [vO]) (dot (1, 0, 0) (P v))
    have := hc k k1 (by rintro rfl; exact k2 rfl)
    simp [dot, vO] at this
  obtain ⟨n, l, hF, hz⟩ := F_ex hs c0 hv (fun k hk => by
    by_cases e : k = v
    · subst e; omega
    · have := hc k hk e; omega)
  have hvA : fA P m n l v := ⟨hv, hz v hv rfl⟩
  have hx := expo_of hF hvA h
  obtain ⟨R, L, hR⟩ := F_rnd hm hD hF
  obtain ⟨a, b, xa, xb, na, nb, ab, av, bv⟩ := rnd_at hR hx
  obtain ⟨n2, l2, F2, v2, b2, d2⟩ := F_ridge hF hvA nb
  obtain ⟨n3, l3, F3, a3, v3, d3⟩ := F_ridge hF xa.1 na
  refine ⟨n, l, n2, l2, n3, l3, hF, F2, F3, hvA, v2, v3, fun e => d2 e.symm, fun e => ?_, fun e => d3 e.symm⟩
  subst e
  have el := isF_lev F2 F3
  subst el
  have st := nxt_strict (gcd3_ne hF.1) hx xa nb (fun e => av (F_sam hD hF hvA xa.1 e).symm) (fun e => ab (F_sam hD hF xa.1 xb.1 e))
  have hN : ncr P v b a ≠ vO := fun e => by have := (F_nc hF hvA xb.1 xa.1).2 e; omega
  exact d2 (F_uni hF F2 hN hvA.2 xb.1.2 xa.1.2 v2.2 b2.2 a3.2).1.symm
/-- an edge -/
def isEd (P : Nat → V3) (m p q : Nat) : Prop := p ≠ q ∧ isCor P m p ∧ isCor P m q ∧ ∃ n1 l1 n2 l2, isF P m n1 l1 ∧ isF P m n2 l2 ∧ n1 ≠ n2 ∧ fA P m n1 l1 p ∧ fA P m n1 l1 q ∧ fA P m n2 l2 p ∧ fA P m n2 l2 q
theorem isEd_symm {P : Nat → V3} {m p q : Nat} (h : isEd P m p q) : isEd P m q p := by
  obtain ⟨a, b, c, n1, l1, n2, l2, d, e, f, g, h, i, j⟩ := h
  exact ⟨a.symm, c, b, n1, l1, n2, l2, d, e, f, h, g, j, i⟩
theorem ed_of {P : Nat → V3} {m : Nat} (hD : Dis P m) {n : V3} {l : Int} (hF : isF P m n l) {p q : Nat} (hp : expo P (fA P m n l) n p) (h : nxt P (fA P m n l) n p q) : isEd P m p q := by
  obtain ⟨n2, l2, F2, a, b, d⟩ := F_ridge hF hp.1 h
  have hq := nxt_expo (fun k (hk : fA P m n l k) => hk.1) (gcd3_ne hF.1) hp h
  refine ⟨fun e => h.2.1 (by rw [e]; exact sam_refl ..), cor_of hD hF hp, cor_of hD hF hq, n, l, n2, l2, hF, F2, d.symm, hp.1, h.1, a, b⟩
/-- the two faces at an edge run along it in opposite ways -/
theorem ed_two {P : Nat → V3} {m : Nat} (hD : Dis P m) {p q : Nat} (hne : p ≠ q) (cp : isCor P m p) (cq : isCor P m q) {n1 n2 : V3} {l1 l2 : Int} (h1 : isF P m n1 l1) (h2 : isF P m n2 l2) (hn : n1 ≠ n2) (p1 : fA P m n1 l1 p) (q1 : fA P m n1 l1 q) (p2 : fA P m n2 l2 p) (q2 : fA P m n2 l2 q) :
    (nxt P (fA P m n1 l1) n1 p q ∧ nxt P (fA P m n2 l2) n2 q p ∧ 0 < dot n1 (vcr n2 (vsub (P q) (P p)))) ∨ (nxt P (fA P m n1 l1) n1 q p ∧ nxt P (fA P m n2 l2) n2 p q ∧ dot n1 (vcr n2 (vsub (P q) (P p))) < 0) := by
  -- in a plane with another face's plane through p and q
  have one : ∀ (n1 n2 : V3) (l1 l2 : Int) (p q : Nat), isF P m n1 l1 → isF P m n2 l2 → p ≠ q → isCor P m p → isCor P m q → fA P m n1 l1 p → fA P m n1 l1 q → fA P m n2 l2 p → fA P m n2 l2 q → 0 < dot n1 (vcr n2 (vsub (P q) (P p))) → nxt P (fA P m n1 l1) n1 p q := by
    intro n1 n2 l1 l2 p q h1 h2 hne cp cq p1 q1 p2 q2 hb
    have nn := gcd3_ne h1.1
    have xp := expo_of h1 p1 cp
    have xq := expo_of h1 q1 cq
    have nsam : ∀ {i j}, fA P m n1 l1 i → fA P m n1 l1 j → i ≠ j → ¬ sam P n1 i j := fun hi hj hij e => hij (F_sam hD h1 hi hj e)
    have e1 : dot n1 (vsub (P q) (P p)) = 0 := by rw [dot_sub, p1.2, q1.2]; omega
    have e2 : dot n2 (vsub (P q) (P p)) = 0 := by rw [dot_sub, p2.2, q2.2]; omega
    refine ⟨q1, nsam p1 q1 hne, fun r hr ns => ?_⟩
    have w1 : dot n1 (vsub (P r) (P p)) = 0 := by rw [dot_sub, p1.2, hr.2]; omega
    have w2 : dot n2 (vsub (P r) (P p)) ≤ 0 := by rw [dot_sub, p2.2]; have := h2.2.1 r hr.1; omega
    -- the rule in the plane
    have key : dot (vcr n1 (vsub (P q) (P p))) (vcr n1 (vsub (P q) (P p))) * dot n2 (vsub (P r) (P p)) = - (dot n1 (vcr n2 (vsub (P q) (P p))) * swg P p q r n1) := by
      have : ∀ e w : V3, dot n1 e = 0 → dot n2 e = 0 → dot n1 w = 0 → dot (vcr n1 e) (vcr n1 e) * dot n2 w = - (dot n1 (vcr n2 e) * dot n1 (vcr e w)) := by
        intro e w a b c
        -- n2 = (n2.n1 / |n1|^2) n1 + (n2.(n1 x e)/|n1 x e|^2) (n1 x e) for vectors across e
        have l := lagr n1 e
        rw [a, Int.mul_zero, Int.sub_zero] at l
        have g1 : dot n1 (vcr n2 e) = - dot n2 (vcr n1 e) := by simp only [dot, vcr]; grind
        have g2 : dot n1 (vcr e w) = dot (vcr n1 e) w := by simp only [dot, vcr]; grind
        rw [g1, g2]
        -- the vector w across n1 is a mix of e and n1 x e
        have mix : ∀ t : V3, dot n1 n1 * dot e e * dot t w = dot n1 n1 * (dot e w * dot t e) + dot (vcr n1 e) w * dot t (vcr n1 e) + dot e e * (dot n1 w * dot t n1) := by
          intro t
          have i : (dot n1 n1 * dot e e - dot n1 e * dot n1 e) * dot t w = dot n1 n1 * (dot e w * dot t e) + dot (vcr n1 e) w * dot t (vcr n1 e) + dot e e * (dot n1 w * dot t n1) - dot n1 e * (dot n1 w * dot t e + dot e w * dot t n1) := by
            simp only [dot, vcr]; grind
          rw [a] at i; grind
        have mm := mix n2
        rw [b, c] at mm
        rw [l]
        grind
      have := this (vsub (P q) (P p)) (vsub (P r) (P p)) e1 e2 w1
      exact this
    have en : vsub (P q) (P p) ≠ vO := by
      intro e; rw [vO_iff] at e; simp only [vsub] at e
      exact hne (hD p q p1.1 q1.1 (v3ext (by omega) (by omega) (by omega)))
    have np := dot_self_pos (cr_ne nn en e1)
    have ge : 0 ≤ swg P p q r n1 := by
      rcases Int.lt_or_le (swg P p q r n1) 0 with u | u
      · have t1 := Int.mul_neg_of_pos_of_neg hb u
        have t2 := Int.mul_nonpos_of_nonneg_of_nonpos (Int.le_of_lt np) w2
        omega
      · exact u
    rcases Int.lt_or_eq_of_le ge with u | u
    · exact Or.inl u
    · right
      refine ⟨u.symm, ?_⟩
      rcases Int.lt_or_le (spr P p q n1) (spr P p r n1) with s | s
      · exfalso
        have z : swg P p r q n1 = 0 := by rw [swg_anti]; omega
        refine btw_false nn xp xq hr (nsam p1 q1 hne) (fun e => ?_) ns z (Int.le_of_lt s)
        have := F_sam hD h1 q1 hr e
        subst this; omega
      · exact s
  have e1 : dot n1 (vsub (P q) (P p)) = 0 := by rw [dot_sub, p1.2, q1.2]; omega
  have e2 : dot n2 (vsub (P q) (P p)) = 0 := by rw [dot_sub, p2.2, q2.2]; omega
  have en : vsub (P q) (P p) ≠ vO := by
    intro e; rw [vO_iff] at e; simp only [vsub] at e
    exact hne (hD p q p1.1 q1.1 (v3ext (by omega) (by omega) (by omega)))
  have b0 : dot n1 (vcr n2 (vsub (P q) (P p))) ≠ 0 := by
    intro z
    have t : dot n1 (vcr n2 (vsub (P q) (P p))) = dot (vsub (P q) (P p)) (vcr n1 n2) := by
      generalize vsub (P q) (P p) = e
      simp only [dot, vcr]; grind
    rw [t] at z
    have pp := perp_par (n := vsub (P q) (P p)) (a := n1) (b := n2) (by rw [dot_comm]; exact e1) (by rw [dot_comm]; exact e2)
    exact hn (F_par h1 h2 p1 p2 (dot_self_zero (par_dot (e := vcr n1 n2) en pp z))).1
  have s1 : dot n2 (vcr n1 (vsub (P p) (P q))) = dot n1 (vcr n2 (vsub (P q) (P p))) := by simp only [dot, vcr, vsub]; grind
  have s2 : dot n1 (vcr n2 (vsub (P p) (P q))) = - dot n1 (vcr n2 (vsub (P q) (P p))) := by simp only [dot, vcr, vsub]; grind
  have s3 : dot n2 (vcr n1 (vsub (P q) (P p))) = - dot n1 (vcr n2 (vsub (P q) (P p))) := by simp only [dot, vcr, vsub]; grind
  rcases Int.lt_or_le 0 (dot n1 (vcr n2 (vsub (P q) (P p)))) with u | u
  · exact Or.inl ⟨one n1 n2 l1 l2 p q h1 h2 hne cp cq p1 q1 p2 q2 u, one n2 n1 l2 l1 q p h2 h1 hne.symm cq cp q2 p2 q1 p1 (by omega), u⟩
  · exact Or.inr ⟨one n1 n2 l1 l2 q p h1 h2 hne.symm cq cp q1 p1 q2 p2 (by omega), one n2 n1 l2 l1 p q h2 h1 hne cp cq p2 q2 p1 q1 (by omega), by omega⟩
theorem nxt_one {P : Nat → V3} {m : Nat} (hD : Dis P m) {n : V3} {l : Int} (hF : isF P m n l) {p q : Nat} (hp : expo P (fA P m n l) n p) (hq : expo P (fA P m n l) n q) (h : nxt P (fA P m n l) n p q) (h' : nxt P (fA P m n l) n q p) (hR : ∃ R L, rnd P (fA P m n l) n R L) : False := by
  obtain ⟨R, L, hR⟩ := hR
  obtain ⟨a, b, xa, xb, na, nb, ab, av, bv⟩ := rnd_at hR hp
  have e1 := F_sam hD hF h.1 nb.1 (nxt_det (gcd3_ne hF.1) hp h nb)
  have e2 := F_sam hD hF h'.1 (xa.1) (by
    have := nxt_inj (gcd3_ne hF.1) hq xa h' na (sam_refl ..)
    exact absurd (F_sam hD hF hq.1 xa.1 this) (fun e => ab (e ▸ e1)))
  exact av e2.symm
/-- each directed edge runs in one face alone -/
theorem dir_one {P : Nat → V3} {m : Nat} (hm : m ≤ 14) (hD : Dis P m) {p q : Nat} {n1 n2 : V3} {l1 l2 : Int} (h1 : isF P m n1 l1) (h2 : isF P m n2 l2) (x1 : expo P (fA P m n1 l1) n1 p) (x2 : expo P (fA P m n2 l2) n2 p) (a1 : nxt P (fA P m n1 l1) n1 p q) (a2 : nxt P (fA P m n2 l2) n2 p q) : n1 = n2 ∧ l1 = l2 := by
  by_cases hn : n1 = n2
  · subst hn; exact ⟨rfl, isF_lev h1 h2⟩
  exfalso
  have hne : p ≠ q := fun e => a1.2.1 (by rw [e]; exact sam_refl ..)
  have y1 := nxt_expo (fun k (hk : fA P m n1 l1 k) => hk.1) (gcd3_ne h1.1) x1 a1
  have y2 := nxt_expo (fun k (hk : fA P m n2 l2 k) => hk.1) (gcd3_ne h2.1) x2 a2
  rcases ed_two hD hne (cor_of hD h1 x1) (cor_of hD h1 y1) h1 h2 hn x1.1 a1.1 x2.1 a2.1 with ⟨_, b, _⟩ | ⟨b, _, _⟩
  · exact nxt_one hD h2 x2 y2 a2 b (F_rnd hm hD h2)
  · exact nxt_one hD h1 x1 y1 a1 b (F_rnd hm hD h1)
/-- an edge runs each way in some face -/
theorem ed_nxt {P : Nat → V3} {m : Nat} (hD : Dis P m) {p q : Nat} (h : isEd P m p q) : ∃ n l, isF P m n l ∧ expo P (fA P m n l) n p ∧ nxt P (fA P m n l) n p q := by
  obtain ⟨hne, cp, cq, n1, l1, n2, l2, h1, h2, hn, p1, q1, p2, q2⟩ := h
  rcases ed_two hD hne cp cq h1 h2 hn p1 q1 p2 q2 with ⟨a, b, _⟩ | ⟨a, b, _⟩
  · exact ⟨n1, l1, h1, expo_of h1 p1 cp, a⟩
  · exact ⟨n2, l2, h2, expo_of h2 p2 cp, b⟩
