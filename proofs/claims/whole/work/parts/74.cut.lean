theorem swg_31 (P : Nat → V3) (p q r : Nat) (d : V3) : swg P r q p d = - swg P p q r d := by
  rw [← swg_rot P r q p, swg_sw]
/-- a functional seen in a face's plane -/
def prj (n c : V3) : V3 := vlc (dot n n) c (-(dot c n)) n
theorem prj_perp (n c : V3) : dot (prj n c) n = 0 := by rw [prj, dot_lc]; grind
theorem prj_dif {P : Nat → V3} {m : Nat} {n c : V3} {l : Int} {p q : Nat} (hp : fA P m n l p) (hq : fA P m n l q) : dot (prj n c) (P p) - dot (prj n c) (P q) = dot n n * (dot c (P p) - dot c (P q)) := by
  rw [prj, dot_lc, dot_lc, hp.2, hq.2]; grind
theorem prj_lt {P : Nat → V3} {m : Nat} {n c : V3} {l : Int} (hn : n ≠ vO) {p q : Nat} (hp : fA P m n l p) (hq : fA P m n l q) : dot (prj n c) (P p) < dot (prj n c) (P q) ↔ dot c (P p) < dot c (P q) := by
  have a := prj_dif (c := c) hp hq
  have b := dot_self_pos hn
  constructor
  · intro h
    rcases Int.lt_or_le (dot c (P p)) (dot c (P q)) with u | u
    · exact u
    · have := Int.mul_nonneg (Int.le_of_lt b) (show 0 ≤ dot c (P p) - dot c (P q) by omega); omega
  · intro h
    have := Int.mul_neg_of_pos_of_neg b (show dot c (P p) - dot c (P q) < 0 by omega); omega
/-- where a face rises from a corner, one of its two edges does -/
theorem imp_face {P : Nat → V3} {m : Nat} (hm : m ≤ 14) (hD : Dis P m) {n : V3} {l : Int} (hF : isF P m n l) {v k : Nat} (hv : expo P (fA P m n l) n v) (hk : fA P m n l k) {c : V3} (h : dot c (P v) < dot c (P k)) : ∃ w, isEd P m v w ∧ fA P m n l w ∧ dot c (P v) < dot c (P w) := by
  have nn := gcd3_ne hF.1
  obtain ⟨R, L, hR⟩ := F_rnd hm hD hF
  obtain ⟨a, b, xa, xb, na, nb, ab, av, bv⟩ := rnd_at hR hv
  have st := nxt_strict nn hv xa nb (fun e => av (F_sam hD hF hv.1 xa.1 e).symm) (fun e => ab (F_sam hD hF xa.1 xb.1 e))
  have o1 := nxt_ge nn nb k hk
  have o2 := nxt_ge nn na k hk
  have pl := pl1 P (prj_perp n c) v b a k
  rw [show swg P v k a n = swg P a v k n from swg_rot ..] at pl
  have hk' := (prj_lt nn hv.1 hk (c := c)).2 h
  have t0 := Int.mul_pos st (show 0 < dot (prj n c) (P k) - dot (prj n c) (P v) by omega)
  by_cases hb : dot c (P v) < dot c (P b)
  · exact ⟨b, ed_of hD hF hv nb, xb.1, hb⟩
  · by_cases ha : dot c (P v) < dot c (P a)
    · exact ⟨a, isEd_symm (ed_of hD hF xa na), xa.1, ha⟩
    · exfalso
      have hb' : ¬ dot (prj n c) (P v) < dot (prj n c) (P b) := fun e => hb ((prj_lt nn hv.1 xb.1).1 e)
      have ha' : ¬ dot (prj n c) (P v) < dot (prj n c) (P a) := fun e => ha ((prj_lt nn hv.1 xa.1).1 e)
      have t1 := Int.mul_nonpos_of_nonneg_of_nonpos o2 (show dot (prj n c) (P b) - dot (prj n c) (P v) ≤ 0 by omega)
      have t2 := Int.mul_nonpos_of_nonneg_of_nonpos o1 (show dot (prj n c) (P a) - dot (prj n c) (P v) ≤ 0 by omega)
      omega
/-- from a corner that is not highest an edge rises -/
theorem imp_edge {P : Nat → V3} {m : Nat} (hm : m ≤ 14) (hD : Dis P m) (hs : Sol P m) {v : Nat} (hv : isCor P m v) {c : V3} (h : ∃ k, k < m ∧ dot c (P v) < dot c (P k)) : ∃ w, isEd P m v w ∧ dot c (P v) < dot c (P w) := by
  obtain ⟨hvm, e, he⟩ := id hv
  obtain ⟨k, k1, k2⟩ := h
  have he' : ∀ k, k < m → dot e (P k) ≤ dot e (P v) := by
    intro k hk
    by_cases x : k = v
    · subst x; omega
    · have := he k hk x; omega
  by_cases hc : vcr c e = vO
  · -- c along e, the other way: any edge will do
    obtain ⟨n, l, hF, hvA⟩ := cor_face hm hD hs hv
    have hx := expo_of hF hvA hv
    obtain ⟨R, L, hR⟩ := F_rnd hm hD hF
    obtain ⟨a, b, xa, xb, na, nb, ab, av, bv⟩ := rnd_at hR hx
    refine ⟨b, ed_of hD hF hx nb, ?_⟩
    -- c = -(some) e
    have hkv : k ≠ v := by rintro rfl; omega
    have s1 := he k k1 hkv
    have s2 := he b xb.1.1 bv
    have key : ∀ u w : V3, dot c u * dot e w = dot c w * dot e u := by
      intro u w
      rw [vO_iff] at hc; simp only [vcr] at hc; obtain ⟨h1, h2, h3⟩ := hc
      simp only [dot]; grind
    have q := key (vsub (P k) (P v)) (vsub (P b) (P v))
    rw [dot_sub, dot_sub, dot_sub, dot_sub] at q
    rcases Int.lt_or_le (dot c (P v)) (dot c (P b)) with u | u
    · exact u
    · have t1 := Int.mul_neg_of_pos_of_neg (show 0 < dot c (P k) - dot c (P v) by omega) (show dot e (P b) - dot e (P v) < 0 by omega)
      have t2 := Int.mul_nonneg_of_nonpos_of_nonpos (show dot c (P b) - dot c (P v) ≤ 0 by omega) (show dot e (P k) - dot e (P v) ≤ 0 by omega)
      omega
  · obtain ⟨r, r1, r2, n', hn', n1, n2, n3, n4, n5⟩ := rotS hs hvm he' hc (fun k hk x => by
      by_cases y : k = v
      · subst y; omega
      · have := he k hk y; omega)
    -- r rises
    have hr : dot c (P v) < dot c (P r) := by
      have a := n2 k k1
      rw [hn', dot_lc, dot_lc] at a
      rcases Int.lt_or_le (dot c (P v)) (dot c (P r)) with u | u
      · exact u
      · exfalso
        have hkv : k ≠ v := by rintro rfl; omega
        have s1 := he k k1 hkv
        have t1 := Int.mul_pos (show 0 < dot e (P v) - dot e (P r) by omega) (show 0 < dot c (P k) - dot c (P v) by omega)
        have t2 := Int.mul_nonneg_of_nonpos_of_nonpos (show dot c (P r) - dot c (P v) ≤ 0 by omega) (show dot e (P k) - dot e (P v) ≤ 0 by omega)
        have e1 : (dot e (P v) - dot e (P r)) * (dot c (P k) - dot c (P v)) = (dot e (P v) - dot e (P r)) * dot c (P k) - (dot e (P v) - dot e (P r)) * dot c (P v) := by grind
        have e2 : (dot c (P r) - dot c (P v)) * (dot e (P k) - dot e (P v)) = (dot c (P r) - dot c (P v)) * dot e (P k) - (dot c (P r) - dot c (P v)) * dot e (P v) := by grind
        omega
    obtain ⟨n, l, hF, hz⟩ := F_ex hs n1 hvm n2
    have hvA : fA P m n l v := ⟨hvm, hz v hvm rfl⟩
    have hrA : fA P m n l r := ⟨r1, hz r r1 n3⟩
    obtain ⟨w, w1, _, w3⟩ := imp_face hm hD hF (expo_of hF hvA hv) hrA hr
    exact ⟨w, w1, w3⟩
/-- a face rises through a level at one edge alone -/
theorem one_up {P : Nat → V3} {m : Nat} (hD : Dis P m) {n : V3} {l : Int} (hF : isF P m n l) {c : V3} {z : Int} {p q p' q' : Nat} (xp : expo P (fA P m n l) n p) (xp' : expo P (fA P m n l) n p') (h : nxt P (fA P m n l) n p q) (h' : nxt P (fA P m n l) n p' q') (a : dot c (P p) ≤ z) (b : z < dot c (P q)) (a' : dot c (P p') ≤ z) (b' : z < dot c (P q')) : p = p' ∧ q = q' := by
  have nn := gcd3_ne hF.1
  have pp : p = p' := by
    apply Classical.byContradiction
    intro hne
    have x0 := nxt_ge nn h p' xp'.1
    have x1 := nxt_ge nn h q' h'.1
    have y0 := nxt_ge nn h' p xp.1
    have y1 := nxt_ge nn h' q h.1
    have e1 := pl1 P (prj_perp n c) p q p' q'
    have e2 := pl1 P (prj_perp n c) p' q' p q
    have r1 : swg P p q' p' n = - swg P p' q' p n := swg_31 ..
    have r2 : swg P p' q p n = - swg P p q p' n := swg_31 ..
    rw [r1] at e1
    rw [r2] at e2
    have A := (prj_lt nn xp.1 h.1 (c := c)).2 (by omega)
    have B := (prj_lt nn xp.1 h'.1 (c := c)).2 (by omega)
    have C := (prj_lt nn xp'.1 h.1 (c := c)).2 (by omega)
    have D := (prj_lt nn xp'.1 h'.1 (c := c)).2 (by omega)
    have z0 : swg P p' q' p n = 0 := by
      rcases Int.le_total (dot (prj n c) (P p')) (dot (prj n c) (P p)) with u | u
      · have t1 := Int.mul_nonpos_of_nonneg_of_nonpos x1 (show dot (prj n c) (P p') - dot (prj n c) (P p) ≤ 0 by omega)
        have t2 := Int.mul_nonneg x0 (show 0 ≤ dot (prj n c) (P q') - dot (prj n c) (P p) by omega)
        have t3 : -swg P p' q' p n * (dot (prj n c) (P q) - dot (prj n c) (P p)) = - (swg P p' q' p n * (dot (prj n c) (P q) - dot (prj n c) (P p))) := by grind
        have t4 := Int.mul_nonneg y0 (show 0 ≤ dot (prj n c) (P q) - dot (prj n c) (P p) by omega)
        exact (Int.mul_eq_zero.1 (show swg P p' q' p n * (dot (prj n c) (P q) - dot (prj n c) (P p)) = 0 by omega)).resolve_right (by omega)
      · have t1 := Int.mul_nonpos_of_nonneg_of_nonpos y1 (show dot (prj n c) (P p) - dot (prj n c) (P p') ≤ 0 by omega)
        have t2 := Int.mul_nonneg y0 (show 0 ≤ dot (prj n c) (P q) - dot (prj n c) (P p') by omega)
        have t3 : -swg P p q p' n * (dot (prj n c) (P q') - dot (prj n c) (P p')) = - (swg P p q p' n * (dot (prj n c) (P q') - dot (prj n c) (P p'))) := by grind
        have t4 := Int.mul_nonneg x0 (show 0 ≤ dot (prj n c) (P q') - dot (prj n c) (P p') by omega)
        exact (Int.mul_eq_zero.1 (show swg P p' q' p n * (dot (prj n c) (P q) - dot (prj n c) (P p')) = 0 by omega)).resolve_right (by omega)
    have np : ¬ sam P n p' p := fun e => hne (F_sam hD hF xp'.1 xp.1 e).symm
    have s : spr P p' p n ≤ spr P p' q' n := by rcases h'.2.2 p xp.1 np with t | t <;> omega
    exact btw_false nn xp' xp h'.1 np (fun e => by have := F_sam hD hF xp.1 h'.1 e; subst this; omega) h'.2.1 z0 s
  subst pp
  exact ⟨rfl, F_sam hD hF h.1 h'.1 (nxt_det nn xp h h')⟩
/-- how many corners a cut has -/
noncomputable def nC (P : Nat → V3) (m : Nat) (c : V3) (z : Int) : Nat := ct (fun p => isCor P m p ∧ dot c (P p) = z) 14 + sm (fun p => ct (fun q => (isEd P m p q ∧ ((dot c (P p) < z ∧ z < dot c (P q)) ∨ (z < dot c (P p) ∧ dot c (P q) < z))) ∧ q < p) 14) 14
theorem nC_cap {P : Nat → V3} {m : Nat} (hm : m ≤ 14) (hb : ∀ j, j < m → vbd 20 (P j)) (hD : Dis P m) (hs : Sol P m) (c : V3) (z : Int) : nC P m c z ≤ 24 := by
  obtain ⟨⟨c1, c2, c3, c4⟩, call⟩ := blF_spec hm hb hD
  have lt14 : ∀ {v}, isCor P m v → v < 14 := fun h => by have := h.1; omega
  by_cases hup : ∃ k, k < m ∧ z < dot c (P k)
  · -- the edges that rise
    have cap : ct (fun t => isEd P m (t / 14) (t % 14) ∧ dot c (P (t / 14)) ≤ z ∧ z < dot c (P (t % 14))) 196 ≤ (blF P m).1 := by
      have := ct_rel (p := fun t => isEd P m (t / 14) (t % 14) ∧ dot c (P (t / 14)) ≤ z ∧ z < dot c (P (t % 14))) (q := fun _ => True) (N := 196) (M := (blF P m).1)
        (fun t i => expo P (fA P m ((blF P m).2 i).1 ((blF P m).2 i).2.1) ((blF P m).2 i).1 (t / 14) ∧ nxt P (fA P m ((blF P m).2 i).1 ((blF P m).2 i).2.1) ((blF P m).2 i).1 (t / 14) (t % 14))
        (fun t ht h => by
          obtain ⟨n, l, hF, hp, hn⟩ := ed_nxt hD h.1
          obtain ⟨i, i1, i2, i3⟩ := call n l hF
          exact ⟨i, i1, trivial, by rw [i2, i3]; exact ⟨hp, hn⟩⟩)
        (fun t u i ht hu pt pu hi a b => by
          have := one_up hD (c2 i hi).1 a.1 b.1 a.2 b.2 pt.2.1 pt.2.2 pu.2.1 pu.2.2
          omega)
      rw [ct_all] at this; exact this
    have sp := ct_split (fun t => isEd P m (t / 14) (t % 14) ∧ dot c (P (t / 14)) ≤ z ∧ z < dot c (P (t % 14))) (fun t => dot c (P (t / 14)) = z) 196
    have z1 : ct (fun p => isCor P m p ∧ dot c (P p) = z) 14 ≤ ct (fun t => (isEd P m (t / 14) (t % 14) ∧ dot c (P (t / 14)) ≤ z ∧ z < dot c (P (t % 14))) ∧ dot c (P (t / 14)) = z) 196 := by
      refine ct_rel (fun p t => t / 14 = p) (fun p hp h => ?_) (fun p q t _ _ _ _ _ a b => by omega)
      obtain ⟨k, k1, k2⟩ := hup
      obtain ⟨w, w1, w2⟩ := imp_edge hm hD hs h.1 (c := c) ⟨k, k1, by omega⟩
      have w14 := lt14 w1.2.2.1
      refine ⟨14 * p + w, by omega, ?_, by omega⟩
      rw [show (14 * p + w) / 14 = p by omega, show (14 * p + w) % 14 = w by omega]
      exact ⟨⟨w1, by omega, by omega⟩, h.2⟩
    have z2 : sm (fun p => ct (fun q => (isEd P m p q ∧ ((dot c (P p) < z ∧ z < dot c (P q)) ∨ (z < dot c (P p) ∧ dot c (P q) < z))) ∧ q < p) 14) 14 ≤ ct (fun t => (isEd P m (t / 14) (t % 14) ∧ dot c (P (t / 14)) ≤ z ∧ z < dot c (P (t % 14))) ∧ ¬ dot c (P (t / 14)) = z) 196 := by
      rw [← ct_codes (fun p q => (isEd P m p q ∧ ((dot c (P p) < z ∧ z < dot c (P q)) ∨ (z < dot c (P p) ∧ dot c (P q) < z))) ∧ q < p) 14 (by omega)]
      refine ct_rel (fun t u => (u / 14 = t / 14 ∧ u % 14 = t % 14) ∨ (u / 14 = t % 14 ∧ u % 14 = t / 14)) (fun t ht h => ?_) (fun t u w ht hu pt pu _ a b => ?_)
      · obtain ⟨⟨h1, h2⟩, h3⟩ := h
        rcases h2 with h2 | h2
        · exact ⟨t, by omega, ⟨⟨h1, by omega, h2.2⟩, by omega⟩, Or.inl ⟨rfl, rfl⟩⟩
        · have a := lt14 h1.2.1
          refine ⟨14 * (t % 14) + t / 14, by omega, ?_, Or.inr ⟨by omega, by omega⟩⟩
          rw [show (14 * (t % 14) + t / 14) / 14 = t % 14 by omega, show (14 * (t % 14) + t / 14) % 14 = t / 14 by omega]
          exact ⟨⟨isEd_symm h1, by omega, h2.1⟩, by omega⟩
      · have a1 := pt.2; have a2 := pu.2; omega
    simp only [nC]; omega
  · have none : sm (fun p => ct (fun q => (isEd P m p q ∧ ((dot c (P p) < z ∧ z < dot c (P q)) ∨ (z < dot c (P p) ∧ dot c (P q) < z))) ∧ q < p) 14) 14 = 0 := by
      rw [sm_congr (g := fun _ => 0) (fun p hp => ct_none (fun q hq h => ?_))]
      · rw [sm_const, Nat.zero_mul]
      · obtain ⟨⟨h1, h2⟩, _⟩ := h
        rcases h2 with h2 | h2
        · exact hup ⟨q, h1.2.2.1.1, h2.2⟩
        · exact hup ⟨p, h1.2.1.1, h2.1⟩
    have := ct_le_N (fun p => isCor P m p ∧ dot c (P p) = z) 14
    simp only [nC]; omega
