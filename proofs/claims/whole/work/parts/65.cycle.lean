/-- nothing on an edge is a corner but its ends -/
theorem btw_false {P : Nat → V3} {A : Nat → Prop} {d : V3} (hd : d ≠ vO) {v a b : Nat} (hv : expo P A d v) (ha : expo P A d a) (hb : A b) (nva : ¬ sam P d v a) (nab : ¬ sam P d a b) (nvb : ¬ sam P d v b) (h0 : swg P v b a d = 0) (hs : spr P v a d ≤ spr P v b d) : False := by
  obtain ⟨hAv, c, c1, c2⟩ := hv
  have xa := (c2 a ha.1).resolve_left nva
  have xb := (c2 b hb).resolve_left nvb
  obtain ⟨k1, k2⟩ := col_cmp hd c1 h0 xb xa hs
  have k3 : dot c (P b) < dot c (P a) := by
    have : dot c (P b) ≠ dot c (P a) := fun e => nab (k2 e)
    omega
  have U0 : 0 < spr P v b d := by
    have := spr_nonneg P v b d
    have : spr P v b d ≠ 0 := nvb
    omega
  have e0 := fun c hc => col1 (c := c) hd hc h0
  have e1 := e0 c c1
  generalize dot (vcr (vsub (P b) (P v)) d) (vcr (vsub (P a) (P v)) d) = D at *
  generalize hU : spr P v b d = U at *
  have D0 : 0 < D := by
    rcases Int.lt_or_le 0 D with e | e
    · exact e
    · have e1' := Int.mul_nonneg_of_nonpos_of_nonpos e (show dot c (P b) - dot c (P v) ≤ 0 by omega)
      have e2 := Int.mul_neg_of_pos_of_neg U0 (show dot c (P a) - dot c (P v) < 0 by omega)
      omega
  have DU : D ≤ U := by
    rcases Int.lt_or_le U D with e | e
    · exfalso
      have a1 := Int.mul_lt_mul_of_pos_left (show dot c (P b) - dot c (P v) < dot c (P a) - dot c (P v) by omega) U0
      have a2 := Int.mul_le_mul_of_nonpos_right (Int.le_of_lt e) (show dot c (P b) - dot c (P v) ≤ 0 by omega)
      omega
    · exact e
  refine no_btw ha hAv hb (fun e => nva (sam_symm e)) nab (s := U - D) (t := D) (by omega) (by omega) (by omega) (fun c hc => ?_)
  have e2 := e0 c hc
  grind
theorem swg_sw (P : Nat → V3) (p q r : Nat) (d : V3) : swg P q p r d = - swg P p q r d := by
  rw [← swg_rot P q p r, swg_anti]
theorem nxt_inj {P : Nat → V3} {A : Nat → Prop} {d : V3} (hd : d ≠ vO) {p p' q q' : Nat} (hp : expo P A d p) (hp' : expo P A d p') (h : nxt P A d p q) (h' : nxt P A d p' q') (e : sam P d q q') : sam P d p p' := by
  apply Classical.byContradiction
  intro ne
  have a := nxt_ge hd h p' hp'.1
  have b := nxt_ge hd h' p hp.1
  rw [← swg_sam2 hd e] at b
  have z : swg P p' q p d = - swg P p q p' d := by
    rw [← swg_rot P p' q p, swg_sw]
  have z0 : swg P p q p' d = 0 := by omega
  have s1 : spr P p p' d ≤ spr P p q d := by
    rcases h.2.2 p' hp'.1 ne with h | h <;> omega
  exact btw_false hd hp hp' h.1 ne (fun e2 => h'.2.1 (sam_trans e2 e)) h.2.1 z0 s1
def itr (fl : Nat → Nat) (st : Nat) : Nat → Nat
  | 0 => st
  | k + 1 => fl (itr fl st k)
/-- the round from a corner on: all corners of what is seen, each once -/
theorem cyc {P : Nat → V3} {A : Nat → Prop} {d : V3} {N : Nat} (hA : ∀ k, A k → k < N) (hd : d ≠ vO) (hn : ∃ x y z, A x ∧ A y ∧ A z ∧ swg P x y z d ≠ 0) (fl : Nat → Nat) (hf : ∀ p, expo P A d p → nxt P A d p (fl p)) (st : Nat) (hst : expo P A d st) :
    ∃ L, 3 ≤ L ∧ L ≤ N ∧ (∀ k, expo P A d (itr fl st k)) ∧ sam P d st (itr fl st L) ∧ (∀ k, 0 < k → k < L → ¬ sam P d st (itr fl st k)) ∧ (∀ i j, i < L → j < L → sam P d (itr fl st i) (itr fl st j) → i = j) ∧ ∀ e, expo P A d e → ∃ k, k < L ∧ sam P d (itr fl st k) e := by
  have ex : ∀ k, expo P A d (itr fl st k) := by
    intro k
    induction k with
    | zero => exact hst
    | succ k ih => exact nxt_expo hA hd ih (hf _ ih)
  have down : ∀ i j, sam P d (itr fl st i) (itr fl st (i + j)) → sam P d st (itr fl st j) := by
    intro i
    induction i with
    | zero => intro j h; rw [Nat.zero_add] at h; exact h
    | succ i ih =>
      intro j h
      apply ih
      rw [show i + 1 + j = (i + j) + 1 by omega] at h
      exact nxt_inj hd (ex i) (ex (i + j)) (hf _ (ex i)) (hf _ (ex (i + j))) h
  have hex : ∃ L, 0 < L ∧ L ≤ N ∧ sam P d st (itr fl st L) := by
    apply Classical.byContradiction
    intro h
    have hne : ∀ L, 0 < L → L ≤ N → ¬ sam P d st (itr fl st L) := fun L a b c => h ⟨L, a, b, c⟩
    have := php (N := N + 1) (M := N) (itr fl st) (fun k _ => hA _ (ex k).1) (fun i j hi hj e => by
      rcases Nat.lt_trichotomy i j with c | c | c
      · exfalso
        refine hne (j - i) (by omega) (by omega) (down i (j - i) ?_)
        rw [show i + (j - i) = j by omega, e]; exact sam_refl ..
      · exact c
      · exfalso
        refine hne (i - j) (by omega) (by omega) (down j (i - j) ?_)
        rw [show j + (i - j) = i by omega, e]; exact sam_refl ..)
    omega
  -- the least
  have hmin : ∃ L, 0 < L ∧ L ≤ N ∧ sam P d st (itr fl st L) ∧ ∀ k, 0 < k → k < L → ¬ sam P d st (itr fl st k) := by
    obtain ⟨L, l1, l2, l3⟩ := hex
    clear down
    induction L using Nat.strongRecOn with
    | ind L ih =>
      by_cases c : ∃ k, 0 < k ∧ k < L ∧ sam P d st (itr fl st k)
      · obtain ⟨k, k1, k2, k3⟩ := c
        exact ih k k2 k1 (by omega) k3
      · exact ⟨L, l1, l2, l3, fun k k1 k2 k3 => c ⟨k, k1, k2, k3⟩⟩
  obtain ⟨L, l1, l2, l3, l4⟩ := hmin
  have inj : ∀ i j, i < L → j < L → sam P d (itr fl st i) (itr fl st j) → i = j := by
    intro i j hi hj e
    rcases Nat.lt_trichotomy i j with c | c | c
    · exfalso
      refine l4 (j - i) (by omega) (by omega) (down i (j - i) ?_)
      rw [show i + (j - i) = j by omega]; exact e
    · exact c
    · exfalso
      refine l4 (i - j) (by omega) (by omega) (down j (i - j) ?_)
      rw [show j + (i - j) = i by omega]; exact sam_symm e
  have L3 : 3 ≤ L := by
    apply Classical.byContradiction
    intro hL
    have n0 := hf st hst
    by_cases e1 : L = 1
    · subst e1; exact n0.2.1 l3
    · have e2 : L = 2 := by omega
      subst e2
      have n1 := hf _ (ex 1)
      have z : ∀ r, A r → swg P st (fl st) r d = 0 := by
        intro r hr
        have a := nxt_ge hd n0 r hr
        have b := nxt_ge hd n1 r hr
        have e : itr fl st 2 = fl (itr fl st 1) := rfl
        rw [e] at l3
        rw [← swg_sam2 hd l3] at b
        have e' : itr fl st 1 = fl st := rfl
        rw [e', swg_sw] at b
        omega
      obtain ⟨x, y, w, hx, hy, hw, hne⟩ := hn
      apply hne
      have E0 : vcr d (vsub (P (fl st)) (P st)) ≠ vO := fun e => n0.2.1 (sam_mk (vcr_O.1 e))
      have z1 := z x hx; have z2 := z y hy; have z3 := z w hw
      rw [swg_fun] at z1 z2 z3
      have pp := perp_par (n := vcr d (vsub (P (fl st)) (P st))) (a := vsub (P y) (P x)) (b := vsub (P w) (P x)) (by rw [dot_sub]; omega) (by rw [dot_sub]; omega)
      have := par_dot (e := d) E0 pp (by rw [dot_comm]; exact dot_vcr_l ..)
      rw [dot_comm] at this; exact this
  refine ⟨L, L3, l2, ex, l3, l4, inj, fun e he => ?_⟩
  apply Classical.byContradiction
  intro hno
  have hno' : ∀ k, k < L → ¬ sam P d (itr fl st k) e := fun k hk hs => hno ⟨k, hk, hs⟩
  obtain ⟨_, c, c1, c2⟩ := he
  obtain ⟨i, hi, hmax⟩ := ex_max (fun k => dot c (P (itr fl st k))) L (by omega)
  -- the one before, the one behind
  have hb : dot c (P (itr fl st (i + 1))) ≤ dot c (P (itr fl st i)) := by
    by_cases e : i + 1 < L
    · exact hmax (i + 1) e
    · rw [show i + 1 = L by omega, ← sam_dot hd c1 l3]; exact hmax 0 (by omega)
  have hprev : ∃ j, j < L ∧ sam P d (itr fl st (j + 1)) (itr fl st i) ∧ ¬ sam P d (itr fl st j) (itr fl st (i + 1)) := by
    by_cases e0 : i = 0
    · subst e0
      refine ⟨L - 1, by omega, ?_, fun h => ?_⟩
      · rw [show L - 1 + 1 = L by omega]; exact sam_symm l3
      · have := inj (L - 1) 1 (by omega) (by omega) h; omega
    · refine ⟨i - 1, by omega, ?_, fun h => ?_⟩
      · rw [show i - 1 + 1 = i by omega]; exact sam_refl ..
      · by_cases e : i + 1 < L
        · have := inj (i - 1) (i + 1) (by omega) e h; omega
        · rw [show i + 1 = L by omega] at h
          have := inj (i - 1) 0 (by omega) (by omega) (sam_trans h (sam_symm l3)); omega
  obtain ⟨j, hj, j1, j2⟩ := hprev
  have nv := hf _ (ex i)
  have na := hf _ (ex j)
  have ee : A e := ‹_›
  have cv : dot c (P (itr fl st i)) < dot c (P e) := by
    exact (c2 _ (ex i).1).resolve_left (fun h => hno' i hi (sam_symm h))
  have ca : dot c (P (itr fl st j)) ≤ dot c (P (itr fl st i)) := hmax j hj
  have o1 := nxt_ge hd nv e ee
  have o2 := nxt_ge hd na e ee
  have o3 := nxt_ge hd nv (itr fl st j) (ex j).1
  have f1 : itr fl st (j + 1) = fl (itr fl st j) := rfl
  have f2 : itr fl st (i + 1) = fl (itr fl st i) := rfl
  rw [f1] at j1
  rw [f2] at j2 hb
  rw [swg_sam2 hd j1] at o2
  have p := pl1 P c1 (itr fl st i) (fl (itr fl st i)) (itr fl st j) e
  rw [show swg P (itr fl st i) e (itr fl st j) d = swg P (itr fl st j) (itr fl st i) e d from swg_rot ..] at p
  have t1 := Int.mul_nonpos_of_nonneg_of_nonpos o2 (show dot c (P (fl (itr fl st i))) - dot c (P (itr fl st i)) ≤ 0 by omega)
  have t2 := Int.mul_nonpos_of_nonneg_of_nonpos o1 (show dot c (P (itr fl st j)) - dot c (P (itr fl st i)) ≤ 0 by omega)
  have o4 : swg P (itr fl st i) (fl (itr fl st i)) (itr fl st j) d = 0 := by
    rcases Int.lt_or_eq_of_le o3 with h | h
    · have := Int.mul_pos h (show 0 < dot c (P e) - dot c (P (itr fl st i)) by omega); omega
    · exact h.symm
  have nij : ¬ sam P d (itr fl st i) (itr fl st j) := fun h => na.2.1 (sam_trans (sam_symm h) (sam_symm j1))
  have hs : spr P (itr fl st i) (itr fl st j) d ≤ spr P (itr fl st i) (fl (itr fl st i)) d := by
    rcases nv.2.2 _ (ex j).1 nij with h | h <;> omega
  exact btw_false hd (ex i) (ex j) nv.1 nij j2 nv.2.1 o4 hs
