theorem cnt_ct (p : Nat → Bool) : ∀ N, cnt p N = ct (fun k => p k = true) N
  | 0 => rfl
  | N + 1 => by
    simp only [cnt]
    rw [cnt_ct p N]
    by_cases h : p N = true
    · rw [if_pos h, ct_t (p := fun k => p k = true) h]
    · rw [if_neg h, ct_f (p := fun k => p k = true) h]; rfl
theorem ct_three {p : Nat → Prop} {N : Nat} : 2 < ct p N ↔ ∃ i j k, i < N ∧ j < N ∧ k < N ∧ p i ∧ p j ∧ p k ∧ i ≠ j ∧ j ≠ k ∧ i ≠ k := by
  constructor
  · intro h
    obtain ⟨i, i1, i2⟩ := ct_pos.1 (show 0 < ct p N by omega)
    have a := ct_pop i1 i2
    obtain ⟨j, j1, j2⟩ := ct_pos.1 (show 0 < ct (fun k => p k ∧ k ≠ i) N by omega)
    have b := ct_pop (q := fun k => p k ∧ k ≠ i) j1 j2
    obtain ⟨k, k1, k2⟩ := ct_pos.1 (show 0 < ct (fun k => (p k ∧ k ≠ i) ∧ k ≠ j) N by omega)
    exact ⟨i, j, k, i1, j1, k1, i2, j2.1, k2.1.1, fun e => j2.2 e.symm, fun e => k2.2 e.symm, fun e => k2.1.2 e.symm⟩
  · rintro ⟨i, j, k, i1, j1, k1, pi, pj, pk, ij, jk, ik⟩
    have a := ct_pop i1 pi
    have b := ct_pop (q := fun k => p k ∧ k ≠ i) j1 ⟨pj, fun e => ij e.symm⟩
    have c := ct_pop (q := fun k => (p k ∧ k ≠ i) ∧ k ≠ j) k1 ⟨⟨pk, fun e => ik e.symm⟩, fun e => jk e.symm⟩
    omega
theorem ct_two {p : Nat → Prop} {N : Nat} : 1 < ct p N ↔ ∃ i j, i < N ∧ j < N ∧ p i ∧ p j ∧ i ≠ j := by
  constructor
  · intro h
    obtain ⟨i, i1, i2⟩ := ct_pos.1 (show 0 < ct p N by omega)
    have a := ct_pop i1 i2
    obtain ⟨j, j1, j2⟩ := ct_pos.1 (show 0 < ct (fun k => p k ∧ k ≠ i) N by omega)
    exact ⟨i, j, i1, j1, i2, j2.1, fun e => j2.2 e.symm⟩
  · rintro ⟨i, j, i1, j1, pi, pj, ij⟩
    have a := ct_pop i1 pi
    have b := ct_pop (q := fun k => p k ∧ k ≠ i) j1 ⟨pj, fun e => ij e.symm⟩
    omega
theorem and_pow {a k : Nat} : a &&& 2 ^ k = 2 ^ k ↔ a.testBit k = true := by
  rw [and_all]
  constructor
  · intro h; exact h k (by rw [Nat.testBit_two_pow]; simp)
  · intro h j hj
    rw [Nat.testBit_two_pow, decide_eq_true_eq] at hj
    subst hj; exact h
/-- the model's list, whole -/
def mAll (P : Nat → V3) (m : Nat) (fa : Nat) (fb : Nat → Nat) (nn : Nat → V3) (lv : Nat → Int) : Prop :=
  fa ≤ 24 ∧ (∀ f, f < fa → isF P m (nn f) (lv f) ∧ ∀ k, (fb f).testBit k = true ↔ fA P m (nn f) (lv f) k) ∧ (∀ f g, f < fa → g < fa → nn f = nn g → f = g) ∧ ∀ n l, isF P m n l → ∃ f, f < fa ∧ nn f = n ∧ lv f = l
theorem mAll_of {P : Nat → V3} {m : Nat} (hm : m ≤ 14) (hb : ∀ j, j < m → vbd 20 (P j)) (hD : Dis P m) {fb : Nat → Nat} {nn : Nat → V3} {lv : Nat → Int} {s : S5} (h : s = mtF P m (1, 0, fb, nn, lv)) : mAll P m s.2.1 s.2.2.1 s.2.2.2.1 s.2.2.2.2 ∧ (s.1 = 0 ∨ s.1 = 1) ∧ (s.1 = 0 ↔ Sol P m) := by
  subst h
  obtain ⟨⟨a, b, c⟩, d, e, f⟩ := mtF_spec hm hb hD fb nn lv
  exact ⟨⟨a, b, c, d⟩, e, f⟩
theorem coF_spec {P : Nat → V3} {m : Nat} (hm : m ≤ 14) (hD : Dis P m) (hs : Sol P m) {fa : Nat} {fb : Nat → Nat} {nn : Nat → V3} {lv : Nat → Int} (h : mAll P m fa fb nn lv) (k : Nat) : (coF fb fa m).testBit k = true ↔ isCor P m k := by
  obtain ⟨_, h1, h2, h3⟩ := h
  simp only [coF]
  rw [bts_spec]
  simp only [coB]
  rw [decide_eq_true_eq, cnt_ct, ct_three]
  simp only [decide_eq_true_eq, and_pow]
  constructor
  · rintro ⟨hk, f, g, i, f1, g1, i1, pf, pg, pi, fg, gi, fi⟩
    exact cor_3F hD (h1 f f1).1 (h1 g g1).1 (h1 i i1).1 (((h1 f f1).2 k).1 pf) (((h1 g g1).2 k).1 pg) (((h1 i i1).2 k).1 pi) (fun e => fg (h2 f g f1 g1 e)) (fun e => gi (h2 g i g1 i1 e)) (fun e => fi (h2 f i f1 i1 e))
  · intro hc
    refine ⟨hc.1, ?_⟩
    obtain ⟨n1, l1, n2, l2, n3, l3, F1, F2, F3, v1, v2, v3, d12, d23, d13⟩ := cor_has hm hD hs hc
    obtain ⟨f, f1, rfl, rfl⟩ := h3 _ _ F1
    obtain ⟨g, g1, rfl, rfl⟩ := h3 _ _ F2
    obtain ⟨i, i1, rfl, rfl⟩ := h3 _ _ F3
    exact ⟨f, g, i, f1, g1, i1, ((h1 f f1).2 k).2 v1, ((h1 g g1).2 k).2 v2, ((h1 i i1).2 k).2 v3, fun e => d12 (by rw [e]), fun e => d23 (by rw [e]), fun e => d13 (by rw [e])⟩
theorem alB_spec (p : Nat → Bool) : ∀ (N : Nat), alB p N = true ↔ ∀ k, k < N → p k = true
  | 0 => by simp [alB]
  | N + 1 => by
    simp only [alB]
    rw [Bool.and_eq_true, alB_spec p N]
    constructor
    · rintro ⟨a, b⟩ k hk
      by_cases e : k = N
      · subst e; exact b
      · exact a k (by omega)
    · intro h; exact ⟨fun k hk => h k (by omega), h N (by omega)⟩
theorem lstB_uni (p : Nat → Bool) {j : Nat} : ∀ (N : Nat), j < N → p j = true → (∀ k, k < N → p k = true → k = j) → lstB p N = (j : Int)
  | 0, h, _, _ => by omega
  | N + 1, h, hj, hu => by
    simp only [lstB]
    by_cases e : p N = true
    · rw [if_pos e, hu N (by omega) e]
    · rw [if_neg e]
      have : j ≠ N := by rintro rfl; exact e hj
      exact lstB_uni p N (by omega) hj (fun k hk => hu k (by omega))
/-- the model's next is the face's next -/
theorem lyN_spec {P : Nat → V3} {m : Nat} (hD : Dis P m) {n : V3} {l : Int} (hF : isF P m n l) {S : Nat} (hS : ∀ k, S.testBit k = true ↔ expo P (fA P m n l) n k) {p q : Nat} (hp : expo P (fA P m n l) n p) (hq : expo P (fA P m n l) n q) (h : nxt P (fA P m n l) n p q) : lyN P m S n p = (q : Int) := by
  have nn := gcd3_ne hF.1
  have ns : ∀ {i j}, expo P (fA P m n l) n i → expo P (fA P m n l) n j → i ≠ j → ¬ sam P n i j := fun hi hj hij e => hij (F_sam hD hF hi.1 hj.1 e)
  have hpq : q ≠ p := fun e => h.2.1 (by rw [e]; exact sam_refl ..)
  refine lstB_uni _ m hq.1.1 ?_ ?_
  · simp only [Bool.and_eq_true, decide_eq_true_eq]
    refine ⟨⟨hpq, (hS q).2 hq⟩, ?_⟩
    simp only [isNx]
    rw [alB_spec]
    intro r hr
    rw [decide_eq_true_eq]
    by_cases e1 : r = p
    · exact Or.inl e1
    by_cases e2 : r = q
    · exact Or.inr (Or.inl e2)
    cases e3 : S.testBit r
    · exact Or.inr (Or.inr (Or.inl rfl))
    · right; right; right
      have hr' := (hS r).1 e3
      have := nxt_strict nn hp hr' h (ns hp hr' (fun e => e1 e.symm)) (ns hr' hq e2)
      rw [dot_comm]; exact this
  · intro k hk hkp
    simp only [Bool.and_eq_true, decide_eq_true_eq] at hkp
    obtain ⟨⟨k1, k2⟩, k3⟩ := hkp
    apply Classical.byContradiction
    intro hne
    have hk' := (hS k).1 k2
    simp only [isNx] at k3
    rw [alB_spec] at k3
    have a := k3 q hq.1.1
    rw [decide_eq_true_eq] at a
    have b := nxt_strict nn hp hk' h (ns hp hk' (fun e => k1 e.symm)) (ns hk' hq hne)
    rcases a with a | a | a | a
    · exact hpq a
    · exact hne a.symm
    · rw [(hS q).2 hq] at a; cases a
    · have a' : 0 < swg P p k q n := by rw [dot_comm] at a; exact a
      rw [swg_anti] at a'; omega
theorem rowOk_of {P : Nat → V3} {m : Nat} (hD : Dis P m) {n : V3} {l : Int} (hF : isF P m n l) {S : Nat} (hS : ∀ k, S.testBit k = true ↔ expo P (fA P m n l) n k) {R : Nat → Nat} {L : Nat} (h : rnd P (fA P m n l) n R L) : rowOk P m S n R L := by
  obtain ⟨⟨l3, l14⟩, ex, inj, cov, lst, nx, nl⟩ := h
  refine ⟨⟨by omega, l14⟩, fun k hk => (ex k hk).1.1, ⟨(hS _).2 (ex 0 (by omega)), fun j hj => ?_⟩, fun k hk => ⟨lyN_spec hD hF hS (ex k (by omega)) (ex (k + 1) hk) (nx k hk), fun e => ?_⟩, lyN_spec hD hF hS (ex (L - 1) (by omega)) (ex 0 (by omega)) nl⟩
  · cases e : S.testBit j
    · rfl
    · have := lst j ((hS j).1 e); omega
  · have := inj (k + 1) 0 hk (by omega) e; omega
theorem rowOk_uni {P : Nat → V3} {m S : Nat} {u : V3} {R R' : Nat → Nat} {L L' : Nat} (h : rowOk P m S u R L) (h' : rowOk P m S u R' L') : L = L' ∧ ∀ k, k < L → R k = R' k := by
  obtain ⟨⟨a1, a2⟩, b, ⟨c1, c2⟩, d, e⟩ := h
  obtain ⟨⟨a1', a2'⟩, b', ⟨c1', c2'⟩, d', e'⟩ := h'
  have h0 : R 0 = R' 0 := by
    rcases Nat.lt_trichotomy (R 0) (R' 0) with x | x | x
    · rw [c2' _ x] at c1; cases c1
    · exact x
    · rw [c2 _ x] at c1'; cases c1'
  have hk : ∀ k, k < L → k < L' → R k = R' k := by
    intro k
    induction k with
    | zero => intro _ _; exact h0
    | succ k ih =>
      intro x y
      have i := ih (by omega) (by omega)
      have p := (d k x).1
      have q := (d' k y).1
      rw [i] at p
      omega
  have hL : L = L' := by
    rcases Nat.lt_trichotomy L L' with x | x | x
    · have q := d' (L - 1) (by omega)
      rw [← hk (L - 1) (by omega) (by omega), e] at q
      exact absurd (show R' (L - 1 + 1) = R' 0 by omega) q.2
    · exact x
    · have q := d (L' - 1) (by omega)
      rw [hk (L' - 1) (by omega) (by omega), e'] at q
      exact absurd (show R (L' - 1 + 1) = R 0 by omega) q.2
  exact ⟨hL, fun k x => hk k x (by omega)⟩
theorem and_co {P : Nat → V3} {m : Nat} (hm : m ≤ 14) (hD : Dis P m) (hs : Sol P m) {fa : Nat} {fb : Nat → Nat} {nn : Nat → V3} {lv : Nat → Int} (h : mAll P m fa fb nn lv) {f : Nat} (hf : f < fa) (k : Nat) : (fb f &&& coF fb fa m).testBit k = true ↔ expo P (fA P m (nn f) (lv f)) (nn f) k := by
  rw [Nat.testBit_and, Bool.and_eq_true, coF_spec hm hD hs h, (h.2.1 f hf).2, expo_cor hD (h.2.1 f hf).1]
theorem mRows_ok {P : Nat → V3} {m : Nat} (hm : m ≤ 14) (hb : ∀ j, j < m → vbd 20 (P j)) (hD : Dis P m) : mRows P m := by
  intro fb nn lv h0 f hf
  obtain ⟨a, _, c⟩ := mAll_of hm hb hD (rfl : mtF P m (1, 0, fb, nn, lv) = _)
  have hs := c.1 h0
  obtain ⟨R, L, hR⟩ := F_rnd hm hD (a.2.1 f hf).1
  exact ⟨R, L, rowOk_of hD (a.2.1 f hf).1 (and_co hm hD hs a hf) hR⟩
/-- class and model hold the same faces -/
def mtc (P : Nat → V3) (m : Nat) (t : B9) : Prop :=
  t.2.2.1 = (blF P m).1 ∧ ∀ i, i < (blF P m).1 → t.2.2.2.2.2.2.2.2 i < t.2.2.1 ∧ t.2.2.2.2.2.2.1 (t.2.2.2.2.2.2.2.2 i) = ((blF P m).2 i).1 ∧ t.2.2.2.2.2.2.2.1 (t.2.2.2.2.2.2.2.2 i) = ((blF P m).2 i).2.1 ∧ t.2.2.2.2.1 (t.2.2.2.2.2.2.2.2 i) = fLen P m i ∧ ∀ k, k < fLen P m i → t.2.2.2.2.2.1 (14 * t.2.2.2.2.2.2.2.2 i + k) = fRow P m i k
theorem ibB_lt3 (fr : Nat → Nat) (f g : Nat) : ibB fr f g = true ↔ lt3 (fun k => fr (14 * f + k)) (fun k => fr (14 * g + k)) := by
  simp only [ibB, lt3, Nat.add_zero]
  split
  · rename_i h; rw [decide_eq_true_eq]; omega
  · rename_i h
    split
    · rename_i h'; rw [decide_eq_true_eq]; omega
    · rename_i h'
      split
      · rename_i h''; rw [decide_eq_true_eq]; omega
      · rename_i h''
        constructor
        · intro e; cases e
        · intro e; omega
theorem faR_spec {fr : Nat → Nat} {fa : Nat} {fat : Nat → Nat} (rk : Nat → Nat) (hrk : ∀ f, f < fa → cnt (fun g => ibB fr g f) fa = rk f) (hinj : ∀ f g, f < fa → g < fa → rk f = rk g → f = g) : ∀ k, k ≤ fa → ∀ f, f < k → faR fr fa fat k (rk f) = f
  | 0, _, f, h => by omega
  | k + 1, hk, f, h => by
    simp only [faR]
    rw [hrk k (by omega)]
    by_cases e : f = k
    · subst e; exact nup_s
    · rw [nup_n (fun e2 => e (hinj f k (by omega) (by omega) e2))]
      exact faR_spec rk hrk hinj k (by omega) f (by omega)
theorem lt3_congr {R R' T T' : Nat → Nat} (h : ∀ k, k < 3 → R k = T k) (h' : ∀ k, k < 3 → R' k = T' k) : lt3 R R' ↔ lt3 T T' := by
  simp only [lt3]
  rw [h 0 (by omega), h 1 (by omega), h 2 (by omega), h' 0 (by omega), h' 1 (by omega), h' 2 (by omega)]
theorem mtc_of {P : Nat → V3} {m : Nat} (hm : m ≤ 14) (hb : ∀ j, j < m → vbd 20 (P j)) (hD : Dis P m) {t : B9} (h : mBt P m t) (h0 : t.1 = 0) : mtc P m t := by
  obtain ⟨⟨fb, nn, lv, he⟩, _, _, _, h5⟩ := h
  obtain ⟨co, rows, fat, hfat⟩ := h5 h0
  obtain ⟨fl, cor, fa, tb, ts, tr, tn, tl, tf⟩ := t
  simp only at he h0 co rows hfat
  obtain ⟨ma, _, mc⟩ := mAll_of hm hb hD he
  simp only at ma mc
  have hs := mc.1 h0
  obtain ⟨cl, call⟩ := blF_spec hm hb hD
  obtain ⟨c1, c2, c3, c4⟩ := cl
  obtain ⟨m1, m2, m3, m4⟩ := id ma
  -- from class to model and back
  have c2m : ∀ i, i < (blF P m).1 → ∃ f, f < fa ∧ tn f = ((blF P m).2 i).1 ∧ tl f = ((blF P m).2 i).2.1 := fun i hi => m4 _ _ (c2 i hi).1
  have m2c : ∀ f, f < fa → ∃ i, i < (blF P m).1 ∧ ((blF P m).2 i).1 = tn f ∧ ((blF P m).2 i).2.1 = tl f := fun f hf => call _ _ (m2 f hf).1
  have row : ∀ i f, i < (blF P m).1 → f < fa → tn f = ((blF P m).2 i).1 → ts f = fLen P m i ∧ ∀ k, k < fLen P m i → tr (14 * f + k) = fRow P m i k := by
    intro i f hi hf e
    have fi := c2 i hi
    have ff := m2 f hf
    have el : tl f = ((blF P m).2 i).2.1 := by
      have := ff.1; rw [e] at this; exact isF_lev this fi.1
    have r1 := rows f hf
    rw [co] at r1
    have r2 := rowOk_of hD ff.1 (and_co hm hD hs ma hf) (R := ((blF P m).2 i).2.2.2.2.2) (L := ((blF P m).2 i).2.2.2.2.1) (by rw [e, el]; exact fi.2.2.1)
    obtain ⟨u1, u2⟩ := rowOk_uni r1 r2
    exact ⟨u1, fun k hk => u2 k (by rw [u1]; exact hk)⟩
  have hF : fa = (blF P m).1 := by
    have a := ct_bij (p := fun _ => True) (q := fun _ => True) (N := fa) (M := (blF P m).1) (fun f i => tn f = ((blF P m).2 i).1)
      (fun f hf _ => by obtain ⟨i, i1, i2, _⟩ := m2c f hf; exact ⟨i, i1, trivial, i2.symm⟩)
      (fun i hi _ => by obtain ⟨f, f1, f2, _⟩ := c2m i hi; exact ⟨f, f1, trivial, f2⟩)
      (fun f g i hf hg _ _ _ a b => m3 f g hf hg (a.trans b.symm))
      (fun f i j _ hi hj _ _ a b => c3 i j hi hj (a.symm.trans b))
    rw [ct_all, ct_all] at a; exact a
  have lti : ∀ i j, i < (blF P m).1 → j < (blF P m).1 → (lt3 ((blF P m).2 j).2.2.2.2.2 ((blF P m).2 i).2.2.2.2.2 ↔ j < i) := by
    intro i j hi hj
    constructor
    · intro h
      rcases Nat.lt_trichotomy j i with x | x | x
      · exact x
      · subst x; exact absurd h lt3_irr
      · exact absurd (lt3_trans h (c4 i j x hj)) lt3_irr
    · intro h; exact c4 j i h hi
  have l3 : ∀ i, i < (blF P m).1 → 3 ≤ fLen P m i := fun i hi => (c2 i hi).2.2.1.1.1
  have rank : ∀ i f, i < (blF P m).1 → f < fa → tn f = ((blF P m).2 i).1 → cnt (fun g => ibB tr g f) fa = i := by
    intro i f hi hf e
    rw [cnt_ct]
    obtain ⟨_, rf⟩ := row i f hi hf e
    have a := ct_bij (p := fun g => ibB tr g f = true) (q := fun j => j < i) (N := fa) (M := (blF P m).1) (fun g j => tn g = ((blF P m).2 j).1)
      (fun g hg hp => by
        obtain ⟨j, j1, j2, _⟩ := m2c g hg
        refine ⟨j, j1, ?_, j2.symm⟩
        obtain ⟨_, rg⟩ := row j g j1 hg j2.symm
        rw [ibB_lt3] at hp
        rw [← lti i j hi j1]
        exact (lt3_congr (fun k hk => rg k (by have := l3 j j1; omega)) (fun k hk => rf k (by have := l3 i hi; omega))).1 hp)
      (fun j hj hp => by
        obtain ⟨g, g1, g2, _⟩ := c2m j hj
        refine ⟨g, g1, ?_, g2⟩
        obtain ⟨_, rg⟩ := row j g hj g1 g2
        rw [ibB_lt3]
        rw [← lti i j hi hj] at hp
        exact (lt3_congr (fun k hk => rg k (by have := l3 j hj; omega)) (fun k hk => rf k (by have := l3 i hi; omega))).2 hp)
      (fun g g' j hg hg' _ _ _ a b => m3 g g' hg hg' (a.trans b.symm))
      (fun g j j' _ hj hj' _ _ a b => c3 j j' hj hj' (a.symm.trans b))
    rw [a]
    clear a
    -- those below i
    have b : ∀ N, i ≤ N → ct (fun j => j < i) N = i := by
      intro N hN
      induction N with
      | zero => rw [show i = 0 by omega]; rfl
      | succ N ih =>
        by_cases e : i = N + 1
        · rw [ct_congr (q := fun _ => True) (fun k hk => ⟨fun _ => trivial, fun _ => by omega⟩), ct_all, e]
        · rw [ct_f (by omega)]; exact ih (by omega)
    exact b _ (by omega)
  have rk : ∀ f, f < fa → ∃ i, i < (blF P m).1 ∧ tn f = ((blF P m).2 i).1 ∧ cnt (fun g => ibB tr g f) fa = i := by
    intro f hf
    obtain ⟨i, i1, i2, _⟩ := m2c f hf
    exact ⟨i, i1, i2.symm, rank i f i1 hf i2.symm⟩
  have key := faR_spec (fr := tr) (fa := fa) (fat := fat) (fun f => cnt (fun g => ibB tr g f) fa) (fun f _ => rfl) (fun f g hf hg e => by
    obtain ⟨i, i1, i2, i3⟩ := rk f hf
    obtain ⟨j, j1, j2, j3⟩ := rk g hg
    have e' : cnt (fun h => ibB tr h f) fa = cnt (fun h => ibB tr h g) fa := e
    rw [i3, j3] at e'
    subst e'
    exact m3 f g hf hg (i2.trans j2.symm)) fa (by omega)
  refine ⟨hF, fun i hi => ?_⟩
  obtain ⟨f, f1, f2, f3⟩ := c2m i hi
  have k := key f f1
  rw [rank i f hi f1 f2, ← hfat] at k
  simp only
  rw [k]
  obtain ⟨r1, r2⟩ := row i f hi f1 f2
  exact ⟨f1, f2, f3, r1, r2⟩
