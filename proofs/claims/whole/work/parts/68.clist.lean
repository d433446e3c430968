/-- the points in a plane -/
def fA (P : Nat → V3) (m : Nat) (n : V3) (l : Int) (k : Nat) : Prop := k < m ∧ dot n (P k) = l
/-- what the class keeps of a face -/
def fOk (P : Nat → V3) (m : Nat) (x : FD) : Prop :=
  isF P m x.1 x.2.1 ∧ (∀ k, x.2.2.1.testBit k = true ↔ fA P m x.1 x.2.1 k) ∧ rnd P (fA P m x.1 x.2.1) x.1 x.2.2.2.2.2 x.2.2.2.2.1 ∧ ∀ k, x.2.2.2.1.testBit k = true ↔ expo P (fA P m x.1 x.2.1) x.1 k
theorem F_nc {P : Nat → V3} {m : Nat} {n : V3} {l : Int} (h : isF P m n l) {p q r : Nat} (hp : fA P m n l p) (hq : fA P m n l q) (hr : fA P m n l r) : swg P p q r n = 0 ↔ ncr P p q r = vO := by
  have pa := perp_par (n := n) (a := vsub (P q) (P p)) (b := vsub (P r) (P p)) (by rw [dot_sub, hq.2, hp.2]; omega) (by rw [dot_sub, hr.2, hp.2]; omega)
  constructor
  · intro e
    exact dot_self_zero (par_dot (e := ncr P p q r) (gcd3_ne h.1) pa e)
  · intro e; rw [swg_ncr, e]; simp [dot, vO]
theorem F_sam {P : Nat → V3} {m : Nat} {n : V3} {l : Int} (hD : Dis P m) (h : isF P m n l) {j k : Nat} (hj : fA P m n l j) (hk : fA P m n l k) (e : sam P n j k) : j = k := by
  apply hD j k hj.1 hk.1
  have a := sam_vec e
  have b : dot n (vsub (P k) (P j)) = 0 := by rw [dot_sub, hj.2, hk.2]; omega
  by_cases c : vsub (P k) (P j) = vO
  · rw [vO_iff] at c; simp only [vsub] at c
    exact v3ext (by omega) (by omega) (by omega)
  · exact absurd a (cr_ne c (gcd3_ne h.1) (by rw [dot_comm]; exact b))
theorem F_tri {P : Nat → V3} {m : Nat} {n : V3} {l : Int} (h : isF P m n l) : ∃ x y z, fA P m n l x ∧ fA P m n l y ∧ fA P m n l z ∧ swg P x y z n ≠ 0 := by
  obtain ⟨_, _, _, p, q, r, hp, hq, hr, ep, eq, er, hN⟩ := id h
  exact ⟨p, q, r, ⟨hp, ep⟩, ⟨hq, eq⟩, ⟨hr, er⟩, fun e => hN ((F_nc h ⟨hp, ep⟩ ⟨hq, eq⟩ ⟨hr, er⟩).1 e)⟩
theorem bA2_fA {P : Nat → V3} {m S : Nat} {n : V3} {l : Int} (hm : m ≤ 14) (h : ∀ k, S.testBit k = true ↔ fA P m n l k) : bA2 S = fA P m n l := by
  funext k
  apply propext
  constructor
  · intro e; exact (h k).1 e.2
  · intro e; exact ⟨by have := e.1; omega, (h k).2 e⟩
/-- another corner of the face lies to the left of an edge -/
theorem nxt_strict {P : Nat → V3} {A : Nat → Prop} {d : V3} (hd : d ≠ vO) {p q r : Nat} (hp : expo P A d p) (hr : expo P A d r) (h : nxt P A d p q) (n1 : ¬ sam P d p r) (n2 : ¬ sam P d r q) : 0 < swg P p q r d := by
  rcases h.2.2 r hr.1 n1 with e | e
  · exact e
  · exact (btw_false hd hp hr h.1 n1 n2 h.2.1 e.1 e.2).elim
theorem nf_ok {P : Nat → V3} {m p q r : Nat} (hm : m ≤ 14) (hD : Dis P m) (hp : p < m) (hq : q < m) (hr : r < m) (h : gcd3 (nrm P p q r) ≠ 0 ∧ ((fcS P m p q r).1 = 1 ∨ (fcS P m p q r).1 = 2)) (row : Nat → Nat) : fOk P m (nfD P m p q r row) := by
  obtain ⟨f1, f2, f3, f4⟩ := fc_face hp hq hr h
  have f4' : ∀ k, (fcS P m p q r).2.testBit k = true ↔ fA P m (fcD P m p q r) (fcL P m p q r) k := f4
  have e := bA2_fA hm f4'
  have t := nfT_spec (P := P) (S := (fcS P m p q r).2) (d := fcD P m p q r) (gcd3_ne f1.1) (by rw [e]; exact F_tri f1) (by rw [e]; exact fun j k hj hk hs => F_sam hD f1 hj hk hs) row
  rw [e] at t
  exact ⟨f1, f4', t.1, t.2⟩
def lt3 (R R' : Nat → Nat) : Prop := R 0 < R' 0 ∨ (R 0 = R' 0 ∧ (R 1 < R' 1 ∨ (R 1 = R' 1 ∧ R 2 < R' 2)))
theorem lt3_trans {R R' R'' : Nat → Nat} (h : lt3 R R') (h' : lt3 R' R'') : lt3 R R'' := by simp only [lt3] at *; omega
theorem lt3_irr {R : Nat → Nat} : ¬ lt3 R R := by simp only [lt3]; omega
theorem rnd_012 {P : Nat → V3} {m : Nat} {n : V3} {l : Int} (hD : Dis P m) (hF : isF P m n l) {R : Nat → Nat} {L : Nat} (h : rnd P (fA P m n l) n R L) : ncr P (R 0) (R 1) (R 2) ≠ vO := by
  obtain ⟨⟨l3, _⟩, ex, inj, _, _, nx, _⟩ := h
  have a : 0 < swg P (R 0) (R 1) (R 2) n := nxt_strict (gcd3_ne hF.1) (ex 0 (by omega)) (ex 2 (by omega)) (nx 0 (by omega)) (fun e => by have := inj 0 2 (by omega) (by omega) (F_sam hD hF (ex 0 (by omega)).1 (ex 2 (by omega)).1 e); omega) (fun e => by have := inj 2 1 (by omega) (by omega) (F_sam hD hF (ex 2 (by omega)).1 (ex 1 (by omega)).1 e); omega)
  intro e
  have := (F_nc hF (ex 0 (by omega)).1 (ex 1 (by omega)).1 (ex 2 (by omega)).1).2 e
  omega
theorem fOk_tot {P : Nat → V3} {m : Nat} (hD : Dis P m) {x y : FD} (hx : fOk P m x) (hy : fOk P m y) (hne : x.1 ≠ y.1) : lt3 x.2.2.2.2.2 y.2.2.2.2.2 ∨ lt3 y.2.2.2.2.2 x.2.2.2.2.2 := by
  apply Classical.byContradiction
  intro h
  have e : x.2.2.2.2.2 0 = y.2.2.2.2.2 0 ∧ x.2.2.2.2.2 1 = y.2.2.2.2.2 1 ∧ x.2.2.2.2.2 2 = y.2.2.2.2.2 2 := by simp only [lt3] at h; omega
  obtain ⟨fx, _, rx, _⟩ := hx
  obtain ⟨fy, _, ry, _⟩ := hy
  have hN := rnd_012 hD fx rx
  have l3 := rx.1.1
  have l3' := ry.1.1
  have ax := fun k hk => (rx.2.1 k hk).1.2
  have ay := fun k hk => (ry.2.1 k hk).1.2
  refine hne (F_uni fx fy hN (ax 0 (by omega)) (ax 1 (by omega)) (ax 2 (by omega)) ?_ ?_ ?_).1
  · rw [e.1]; exact ay 0 (by omega)
  · rw [e.2.1]; exact ay 1 (by omega)
  · rw [e.2.2]; exact ay 2 (by omega)
theorem fld_lt3 {P : Nat → V3} {m : Nat} (hD : Dis P m) {x y : FD} (hx : fOk P m x) (hy : fOk P m y) (hne : x.1 ≠ y.1) : fld x y = true ↔ lt3 x.2.2.2.2.2 y.2.2.2.2.2 := by
  have tot := fOk_tot hD hx hy hne
  have l3 := hx.2.2.1.1.1
  have l3' := hy.2.2.1.1.1
  have h0 : ¬ (x.2.2.2.2.1 ≤ 0 ∨ y.2.2.2.2.1 ≤ 0) := by omega
  have h1 : ¬ (x.2.2.2.2.1 ≤ 0 + 1 ∨ y.2.2.2.2.1 ≤ 0 + 1) := by omega
  have h2 : ¬ (x.2.2.2.2.1 ≤ 0 + 1 + 1 ∨ y.2.2.2.2.1 ≤ 0 + 1 + 1) := by omega
  simp only [fld]
  rw [ldR, if_neg h0]
  simp only [lt3] at *
  split
  · rename_i e0
    rw [ldR, if_neg h1]
    split
    · rename_i e1
      rw [ldR, if_neg h2]
      simp only [Nat.zero_add] at *
      split
      · rename_i e2
        simp only [Nat.reduceAdd] at *
        omega
      · rename_i e2
        simp only [Nat.reduceAdd, decide_eq_true_eq] at *
        omega
    · rename_i e1
      simp only [Nat.zero_add, decide_eq_true_eq] at *
      omega
  · rename_i e0
    simp only [decide_eq_true_eq]
    omega
theorem stR_hi : ∀ (k : Nat) (f : Nat → FD) (i : Nat), k < i → stR f k i = f i
  | 0, f, i, h => rfl
  | k + 1, f, i, h => by
    simp only [stR]
    split
    · rw [stR_hi k _ i (by omega)]
      simp only [sw2]
      rw [if_neg (by omega), if_neg (by omega)]
    · rfl
/-- where the last one comes to stand -/
theorem stR_spec : ∀ (k : Nat) (f : Nat → FD), ∃ t, t ≤ k ∧ (∀ i, i < t → stR f k i = f i) ∧ stR f k t = f k ∧ (∀ i, t < i → i ≤ k → stR f k i = f (i - 1)) ∧ (t = 0 ∨ fld (f k) (f (t - 1)) = false) ∧ ∀ i, t ≤ i → i < k → fld (f k) (f i) = true
  | 0, f => ⟨0, by omega, fun i h => by omega, rfl, fun i h1 h2 => by omega, Or.inl rfl, fun i h1 h2 => by omega⟩
  | k + 1, f => by
    simp only [stR]
    split
    · rename_i hl
      obtain ⟨t, t1, t2, t3, t4, t5, t6⟩ := stR_spec k (sw2 f k)
      have e1 : sw2 f k k = f (k + 1) := by simp [sw2]
      have e2 : ∀ j, j < k → sw2 f k j = f j := by intro j hj; simp only [sw2]; rw [if_neg (by omega), if_neg (by omega)]
      have e3 : sw2 f k (k + 1) = f k := by simp [sw2]
      rw [e1] at t3 t5 t6
      refine ⟨t, by omega, fun i hi => by rw [t2 i hi, e2 i (by omega)], t3, fun i h1 h2 => ?_, ?_, fun i h1 h2 => ?_⟩
      · by_cases e : i = k + 1
        · subst e; rw [stR_hi k _ _ (by omega), e3]; rfl
        · rw [t4 i h1 (by omega), e2 (i - 1) (by omega)]
      · rcases t5 with t5 | t5
        · exact Or.inl t5
        · by_cases e : t = 0
          · exact Or.inl e
          · rw [e2 (t - 1) (by omega)] at t5; exact Or.inr t5
      · by_cases e : i = k
        · subst e; exact hl
        · have := t6 i h1 (by omega)
          rw [e2 i (by omega)] at this; exact this
    · rename_i hl
      refine ⟨k + 1, by omega, fun i h => rfl, rfl, fun i h1 h2 => by omega, Or.inr ?_, fun i h1 h2 => by omega⟩
      simpa using hl
/-- the class's list of faces -/
def cL (P : Nat → V3) (m : Nat) (s : Nat × (Nat → FD)) : Prop :=
  s.1 ≤ 24 ∧ (∀ i, i < s.1 → fOk P m (s.2 i)) ∧ (∀ i j, i < s.1 → j < s.1 → (s.2 i).1 = (s.2 j).1 → i = j) ∧ ∀ i j, i < j → j < s.1 → lt3 (s.2 i).2.2.2.2.2 (s.2 j).2.2.2.2.2
def inL (s : Nat × (Nat → FD)) (n : V3) (l : Int) : Prop := ∃ i, i < s.1 ∧ (s.2 i).1 = n ∧ (s.2 i).2.1 = l
theorem ins_cL {P : Nat → V3} {m : Nat} (hD : Dis P m) {s : Nat × (Nat → FD)} (h : cL P m s) (hs : s.1 < 24) {x : FD} (hx : fOk P m x) (hn : ∀ i, i < s.1 → (s.2 i).1 ≠ x.1) :
    cL P m (s.1 + 1, stR (nup s.2 s.1 x) s.1) ∧ (∀ n l, inL s n l → inL (s.1 + 1, stR (nup s.2 s.1 x) s.1) n l) ∧ inL (s.1 + 1, stR (nup s.2 s.1 x) s.1) x.1 x.2.1 := by
  obtain ⟨F, f⟩ := s
  obtain ⟨c1, c2, c3, c4⟩ := h
  simp only at hs hn c1 c2 c3 c4
  obtain ⟨t, t1, t2, t3, t4, t5, t6⟩ := stR_spec F (nup f F x)
  have eF : nup f F x F = x := nup_s
  have ei : ∀ i, i < F → nup f F x i = f i := fun i hi => nup_n (by omega)
  rw [eF] at t3 t5 t6
  have g1 : ∀ i, i < t → stR (nup f F x) F i = f i := fun i hi => by rw [t2 i hi, ei i (by omega)]
  have g2 : ∀ i, t < i → i ≤ F → stR (nup f F x) F i = f (i - 1) := fun i h1 h2 => by rw [t4 i h1 h2, ei _ (by omega)]
  have hlt : ∀ i, t ≤ i → i < F → lt3 x.2.2.2.2.2 (f i).2.2.2.2.2 := by
    intro i h1 h2
    have := t6 i h1 h2
    rw [ei i h2] at this
    exact (fld_lt3 hD hx (c2 i h2) (fun e => hn i h2 e.symm)).1 this
  have hgt : ∀ i, i < t → lt3 (f i).2.2.2.2.2 x.2.2.2.2.2 := by
    intro i hi
    rcases t5 with t5 | t5
    · omega
    · rw [ei (t - 1) (by omega)] at t5
      have a : lt3 (f (t - 1)).2.2.2.2.2 x.2.2.2.2.2 := by
        rcases fOk_tot hD hx (c2 (t - 1) (by omega)) (fun e => hn (t - 1) (by omega) e.symm) with u | u
        · have := (fld_lt3 hD hx (c2 (t - 1) (by omega)) (fun e => hn (t - 1) (by omega) e.symm)).2 u
          rw [t5] at this; cases this
        · exact u
      by_cases e : i = t - 1
      · subst e; exact a
      · exact lt3_trans (c4 i (t - 1) (by omega) (by omega)) a
  refine ⟨⟨by simp only; omega, fun i hi => ?_, fun i j hi hj e => ?_, fun i j hij hj => ?_⟩, fun n l hin => ?_, ?_⟩
  · simp only at hi ⊢
    rcases Nat.lt_trichotomy i t with u | u | u
    · rw [g1 i u]; exact c2 i (by omega)
    · subst u; rw [t3]; exact hx
    · rw [g2 i u (by omega)]; exact c2 _ (by omega)
  · simp only at hi hj e
    rcases Nat.lt_trichotomy i t with u | u | u <;> rcases Nat.lt_trichotomy j t with v | v | v
    · rw [g1 i u, g1 j v] at e; exact c3 i j (by omega) (by omega) e
    · rw [g1 i u, v, t3] at e; exact absurd e (hn i (by omega))
    · rw [g1 i u, g2 j v (by omega)] at e; have := c3 i (j - 1) (by omega) (by omega) e; omega
    · rw [u, t3, g1 j v] at e; exact absurd e.symm (hn j (by omega))
    · omega
    · rw [u, t3, g2 j v (by omega)] at e; exact absurd e.symm (hn (j - 1) (by omega))
    · rw [g2 i u (by omega), g1 j v] at e; have := c3 (i - 1) j (by omega) (by omega) e; omega
    · rw [g2 i u (by omega), v, t3] at e; exact absurd e (hn (i - 1) (by omega))
    · rw [g2 i u (by omega), g2 j v (by omega)] at e; have := c3 (i - 1) (j - 1) (by omega) (by omega) e; omega
  · simp only at hj ⊢
    rcases Nat.lt_trichotomy i t with u | u | u <;> rcases Nat.lt_trichotomy j t with v | v | v
    · rw [g1 i u, g1 j v]; exact c4 i j (by omega) (by omega)
    · rw [g1 i u, v, t3]; exact hgt i u
    · rw [g1 i u, g2 j v (by omega)]
      by_cases e : i = j - 1
      · omega
      · exact c4 i (j - 1) (by omega) (by omega)
    · omega
    · omega
    · rw [u, t3, g2 j v (by omega)]; exact hlt (j - 1) (by omega) (by omega)
    · omega
    · omega
    · rw [g2 i u (by omega), g2 j v (by omega)]; exact c4 (i - 1) (j - 1) (by omega) (by omega)
  · obtain ⟨i, i1, i2, i3⟩ := hin
    simp only at i1 i2 i3
    by_cases u : i < t
    · exact ⟨i, by simp only; omega, by simp only; rw [g1 i u]; exact ⟨i2, i3⟩⟩
    · refine ⟨i + 1, by simp only; omega, ?_⟩
      simp only
      rw [g2 (i + 1) (by omega) (by omega)]
      exact ⟨i2, i3⟩
  · exact ⟨t, by simp only; omega, by simp only; rw [t3]; exact ⟨rfl, rfl⟩⟩
theorem knR_spec {f : Nat → FD} {w : Nat} : ∀ (k i : Nat), knR f w k i = true ↔ ∃ j, i ≤ j ∧ j < i + k ∧ (f j).2.2.1 &&& w = w
  | 0, i => by
    simp only [knR]
    constructor
    · intro h; cases h
    · rintro ⟨j, a, b, _⟩; omega
  | k + 1, i => by
    simp only [knR]
    split
    · rename_i h
      exact ⟨fun _ => ⟨i, by omega, by omega, h⟩, fun _ => rfl⟩
    · rename_i h
      rw [knR_spec k (i + 1)]
      constructor
      · rintro ⟨j, a, b, c⟩; exact ⟨j, by omega, by omega, c⟩
      · rintro ⟨j, a, b, c⟩
        by_cases e : j = i
        · subst e; exact absurd c h
        · exact ⟨j, by omega, by omega, c⟩
theorem and_all {a w : Nat} : a &&& w = w ↔ ∀ k, w.testBit k = true → a.testBit k = true := by
  constructor
  · intro h k hk
    have : (a &&& w).testBit k = true := by rw [h]; exact hk
    rw [Nat.testBit_and, Bool.and_eq_true] at this
    exact this.1
  · intro h
    apply Nat.eq_of_testBit_eq
    intro k
    rw [Nat.testBit_and]
    cases e : w.testBit k
    · simp
    · simp [h k e]
theorem tb3 (p q r k : Nat) : (2 ^ p ||| 2 ^ q ||| 2 ^ r).testBit k = true ↔ p = k ∨ q = k ∨ r = k := by
  rw [Nat.testBit_or, Nat.testBit_or, Nat.testBit_two_pow, Nat.testBit_two_pow, Nat.testBit_two_pow]
  simp [or_assoc]
/-- no more faces than the row has room for -/
theorem cap_cL {P : Nat → V3} {m : Nat} (hm : m ≤ 14) (hb : ∀ j, j < m → vbd 20 (P j)) (hD : Dis P m) {s : Nat × (Nat → FD)} (h : cL P m s) {n : V3} {l : Int} (hf : isF P m n l) (hs : 24 ≤ s.1) : inL s n l := by
  apply Classical.byContradiction
  intro hno
  obtain ⟨c1, c2, c3, c4⟩ := h
  have key := F_cap (gV_inj hb hD) (s.1 + 1) (nup (fun i => (s.2 i).1) s.1 n) (nup (fun i => (s.2 i).2.1) s.1 l) (fun i hi => ?_) (fun i j hi hj e => ?_) (by omega)
  · omega
  · by_cases e : i = s.1
    · subst e; rw [nup_s, nup_s]; exact hf
    · rw [nup_n e, nup_n e]; exact (c2 i (by omega)).1
  · have hmax : ∀ i, i < s.1 → (s.2 i).1 ≠ n := by
      intro i hi e
      refine hno ⟨i, hi, e, ?_⟩
      have fi := (c2 i hi).1
      rw [e] at fi
      obtain ⟨_, s1, _, p1, _, _, a1, _, _, b1, _⟩ := fi
      obtain ⟨_, s2, _, p2, _, _, a2, _, _, b2, _⟩ := hf
      have := s1 p2 a2; have := s2 p1 a1; omega
    by_cases e1 : i = s.1 <;> by_cases e2 : j = s.1
    · omega
    · rw [e1, nup_s, nup_n e2] at e; exact absurd e.symm (hmax j (by omega))
    · rw [e2, nup_s, nup_n e1] at e; exact absurd e (hmax i (by omega))
    · rw [nup_n e1, nup_n e2] at e; exact c3 i j (by omega) (by omega) e
/-- a triple has its turn -/
theorem tfC_inv {P : Nat → V3} {m : Nat} (hm : m ≤ 14) (hb : ∀ j, j < m → vbd 20 (P j)) (hD : Dis P m) {s : Nat × (Nat → FD)} (h : cL P m s) {p q r : Nat} (hp : p < m) (hq : q < m) (hr : r < m) :
    cL P m (tfC P m p q r s) ∧ (∀ n l, inL s n l → inL (tfC P m p q r s) n l) ∧ ∀ n l, isF P m n l → ncr P p q r ≠ vO → dot n (P p) = l → dot n (P q) = l → dot n (P r) = l → inL (tfC P m p q r s) n l := by
  simp only [tfC]
  split
  · rename_i hc
    refine ⟨h, fun n l x => x, fun n l hf hN e1 e2 e3 => ?_⟩
    rcases hc with hc | hc
    · exact cap_cL hm hb hD h hf hc
    · obtain ⟨i, _, i2, i3⟩ := (knR_spec _ _).1 hc
      have fi := h.2.1 i (by omega)
      rw [and_all] at i3
      have on := fun k hk => (fi.2.1 k).1 (i3 k ((tb3 p q r k).2 hk))
      have u := F_uni fi.1 hf hN (on p (Or.inl rfl)).2 (on q (Or.inr (Or.inl rfl))).2 (on r (Or.inr (Or.inr rfl))).2 e1 e2 e3
      exact ⟨i, by omega, u.1, u.2⟩
  · rename_i hc
    split
    · rename_i hok
      have f := fc_face hp hq hr hok
      have hx := nf_ok hm hD hp hq hr hok (fun _ => 0)
      obtain ⟨i1, i2, i3⟩ := ins_cL hD h (by omega) hx (fun i hi e => by
        have fi := h.2.1 i hi
        have e' : (s.2 i).1 = fcD P m p q r := e
        have fi1 := fi.1
        have el : (s.2 i).2.1 = fcL P m p q r := by
          rw [e'] at fi1
          obtain ⟨_, s1, _, p1, _, _, a1, _, _, b1, _⟩ := fi1
          obtain ⟨_, s2, _, p2, _, _, a2, _, _, b2, _⟩ := f.1
          have := s1 p2 a2; have := s2 p1 a1; omega
        apply hc
        right
        refine (knR_spec _ _).2 ⟨i, by omega, by omega, and_all.2 fun k hk => (fi.2.1 k).2 ?_⟩
        rw [e', el]
        rcases (tb3 p q r k).1 hk with rfl | rfl | rfl
        · exact ⟨hp, f.2.2.1.1⟩
        · exact ⟨hq, f.2.2.1.2.1⟩
        · exact ⟨hr, f.2.2.1.2.2⟩)
      refine ⟨i1, i2, fun n l hf hN e1 e2 e3 => ?_⟩
      have u := F_uni f.1 hf hN f.2.2.1.1 f.2.2.1.2.1 f.2.2.1.2.2 e1 e2 e3
      rw [← u.1, ← u.2]
      exact i3
    · rename_i hok
      refine ⟨h, fun n l x => x, fun n l hf hN e1 e2 e3 => ?_⟩
      exact absurd (fc_all hp hq hr hf hN e1 e2 e3) hok
def dnT (P : Nat → V3) (m : Nat) (s : Nat × (Nat → FD)) (p q r : Nat) : Prop := ∀ n l, isF P m n l → ncr P p q r ≠ vO → dot n (P p) = l → dot n (P q) = l → dot n (P r) = l → inL s n l
theorem pR_inv {P : Nat → V3} {m : Nat} (hm : m ≤ 14) (hb : ∀ j, j < m → vbd 20 (P j)) (hD : Dis P m) {q r : Nat} (hq : q < m) (hr : r < m) : ∀ (k p : Nat) (s : Nat × (Nat → FD)), cL P m s → p + k ≤ q → cL P m (pR P m q r k p s) ∧ (∀ n l, inL s n l → inL (pR P m q r k p s) n l) ∧ ∀ p', p ≤ p' → p' < p + k → dnT P m (pR P m q r k p s) p' q r
  | 0, p, s, h, hk => ⟨h, fun n l x => x, fun p' a b => by omega⟩
  | k + 1, p, s, h, hk => by
    obtain ⟨a1, a2, a3⟩ := tfC_inv hm hb hD h (p := p) (by omega) hq hr
    obtain ⟨b1, b2, b3⟩ := pR_inv hm hb hD hq hr k (p + 1) _ a1 (by omega)
    simp only [pR]
    refine ⟨b1, fun n l x => b2 n l (a2 n l x), fun p' c1 c2 => ?_⟩
    by_cases e : p' = p
    · subst e
      exact fun n l hf hN e1 e2 e3 => b2 n l (a3 n l hf hN e1 e2 e3)
    · exact b3 p' (by omega) (by omega)
theorem qR_inv {P : Nat → V3} {m : Nat} (hm : m ≤ 14) (hb : ∀ j, j < m → vbd 20 (P j)) (hD : Dis P m) {r : Nat} (hr : r < m) : ∀ (k q : Nat) (s : Nat × (Nat → FD)), cL P m s → q + k ≤ r → cL P m (qR P m r k q s) ∧ (∀ n l, inL s n l → inL (qR P m r k q s) n l) ∧ ∀ q', q ≤ q' → q' < q + k → ∀ p', p' < q' → dnT P m (qR P m r k q s) p' q' r
  | 0, q, s, h, hk => ⟨h, fun n l x => x, fun p' a b => by omega⟩
  | k + 1, q, s, h, hk => by
    obtain ⟨a1, a2, a3⟩ := pR_inv hm hb hD (q := q) (by omega) hr q 0 s h (by omega)
    obtain ⟨b1, b2, b3⟩ := qR_inv hm hb hD hr k (q + 1) _ a1 (by omega)
    simp only [qR]
    refine ⟨b1, fun n l x => b2 n l (a2 n l x), fun q' c1 c2 p' c3 => ?_⟩
    by_cases e : q' = q
    · subst e
      exact fun n l hf hN e1 e2 e3 => b2 n l (a3 p' (by omega) (by omega) n l hf hN e1 e2 e3)
    · exact b3 q' (by omega) (by omega) p' c3
theorem rR_inv {P : Nat → V3} {m : Nat} (hm : m ≤ 14) (hb : ∀ j, j < m → vbd 20 (P j)) (hD : Dis P m) : ∀ (k r : Nat) (s : Nat × (Nat → FD)), cL P m s → r + k ≤ m → 2 ≤ r → cL P m (rR P m k r s) ∧ (∀ n l, inL s n l → inL (rR P m k r s) n l) ∧ ∀ r', r ≤ r' → r' < r + k → ∀ q', 1 ≤ q' → q' < r' → ∀ p', p' < q' → dnT P m (rR P m k r s) p' q' r'
  | 0, r, s, h, hk, h2 => ⟨h, fun n l x => x, fun p' a b => by omega⟩
  | k + 1, r, s, h, hk, h2 => by
    obtain ⟨a1, a2, a3⟩ := qR_inv hm hb hD (r := r) (by omega) (r - 1) 1 s h (by omega)
    obtain ⟨b1, b2, b3⟩ := rR_inv hm hb hD k (r + 1) _ a1 (by omega) (by omega)
    simp only [rR]
    refine ⟨b1, fun n l x => b2 n l (a2 n l x), fun r' c1 c2 q' c3 c4 p' c5 => ?_⟩
    by_cases e : r' = r
    · subst e
      exact fun n l hf hN e1 e2 e3 => b2 n l (a3 q' (by omega) (by omega) p' c5 n l hf hN e1 e2 e3)
    · exact b3 r' (by omega) (by omega) q' c3 c4 p' c5
theorem ncr_perm {P : Nat → V3} {p q r : Nat} (h : ncr P p q r ≠ vO) : (p ≠ q ∧ q ≠ r ∧ p ≠ r) ∧ ncr P p r q ≠ vO ∧ ncr P q p r ≠ vO ∧ ncr P q r p ≠ vO ∧ ncr P r p q ≠ vO ∧ ncr P r q p ≠ vO := by
  have ne : ∀ u : V3, u ≠ vO → vneg u ≠ vO := fun u h e => h (vneg_O.1 e)
  have hpq : p ≠ q := by rintro rfl; exact h (by simp [ncr, vcr, vsub, vO])
  have hpr : p ≠ r := by rintro rfl; exact h (by simp [ncr, vcr, vsub, vO])
  have hqr : q ≠ r := by rintro rfl; exact h (by simp only [ncr]; exact vcr_self _)
  have a1 : ncr P p r q ≠ vO := by rw [ncr_swap]; exact ne _ h
  have a2 : ncr P q r p ≠ vO := by rw [ncr_rot]; exact h
  have a3 : ncr P r p q ≠ vO := by rw [ncr_rot P q r p, ncr_rot P p q r]; exact h
  have a4 : ncr P q p r ≠ vO := by rw [ncr_swap]; exact ne _ a2
  have a5 : ncr P r q p ≠ vO := by rw [ncr_swap]; exact ne _ a3
  exact ⟨⟨hpq, hqr, hpr⟩, a1, a4, a2, a3, a5⟩
/-- a face's three points in ascending order -/
theorem F_asc {P : Nat → V3} {m : Nat} {n : V3} {l : Int} (h : isF P m n l) : ∃ p q r, p < q ∧ q < r ∧ r < m ∧ ncr P p q r ≠ vO ∧ dot n (P p) = l ∧ dot n (P q) = l ∧ dot n (P r) = l := by
  obtain ⟨_, _, _, p, q, r, hp, hq, hr, ep, eq, er, hN⟩ := h
  obtain ⟨⟨h1, h2, h3⟩, a1, a2, a3, a4, a5⟩ := ncr_perm hN
  by_cases c1 : p < q
  · by_cases c2 : q < r
    · exact ⟨p, q, r, c1, c2, hr, hN, ep, eq, er⟩
    · by_cases c3 : p < r
      · exact ⟨p, r, q, c3, by omega, hq, a1, ep, er, eq⟩
      · exact ⟨r, p, q, by omega, c1, hq, a4, er, ep, eq⟩
  · by_cases c2 : p < r
    · exact ⟨q, p, r, by omega, c2, hr, a2, eq, ep, er⟩
    · by_cases c3 : q < r
      · exact ⟨q, r, p, c3, by omega, hp, a3, eq, er, ep⟩
      · exact ⟨r, q, p, by omega, by omega, hp, a5, er, eq, ep⟩
/-- the class has all faces, each once, in order -/
theorem blF_spec {P : Nat → V3} {m : Nat} (hm : m ≤ 14) (hb : ∀ j, j < m → vbd 20 (P j)) (hD : Dis P m) : cL P m (blF P m) ∧ ∀ n l, isF P m n l → inL (blF P m) n l := by
  have h0 : cL P m (0, fun _ => ((0, 0, 0), 0, 0, 0, 0, fun _ => 0)) := ⟨by simp only; omega, fun i h => by simp only at h; omega, fun i j h => by simp only at h; omega, fun i j h h' => by simp only at h'; omega⟩
  by_cases h2 : 2 ≤ m
  · obtain ⟨a1, a2, a3⟩ := rR_inv hm hb hD (m - 2) 2 _ h0 (by omega) (by omega)
    refine ⟨a1, fun n l hf => ?_⟩
    obtain ⟨p, q, r, h1, h2, h3, hN, e1, e2, e3⟩ := F_asc hf
    exact a3 r (by omega) (by omega) q (by omega) h2 p h1 n l hf hN e1 e2 e3
  · have e : m - 2 = 0 := by omega
    simp only [blF]
    rw [e]
    simp only [rR]
    refine ⟨h0, fun n l hf => ?_⟩
    obtain ⟨p, q, r, h1, h2, h3, _⟩ := F_asc hf
    omega
