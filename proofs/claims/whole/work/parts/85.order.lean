theorem itr_add (g : Nat → Nat) (x : Nat) : ∀ (j k : Nat), itr g x (j + k) = itr g (itr g x j) k
  | j, 0 => rfl
  | j, k + 1 => by
    show g (itr g x (j + k)) = g (itr g (itr g x j) k)
    rw [itr_add g x j k]
theorem itr_succ (g : Nat → Nat) (x k : Nat) : itr g x (k + 1) = itr g (g x) k := by
  rw [Nat.add_comm, itr_add]; rfl
/-- what comes back, comes back within 14 -/
theorem ring_ex {C : Nat → Prop} {g : Nat → Nat} (hC : ∀ k, C k → k < 14) (h1 : ∀ p, C p → C (g p)) (h2 : ∀ p q, C p → C q → g p = g q → p = q) {x : Nat} (hx : C x) : ∃ l, 0 < l ∧ l ≤ 14 ∧ itr g x l = x := by
  have hc : ∀ k, C (itr g x k) := by
    intro k
    induction k with
    | zero => exact hx
    | succ k ih => exact h1 _ ih
  have down : ∀ i j, itr g x i = itr g x (i + j) → itr g x j = x := by
    intro i
    induction i with
    | zero => intro j h; rw [Nat.zero_add] at h; exact h.symm
    | succ i ih =>
      intro j h
      apply ih
      rw [show i + 1 + j = (i + j) + 1 by omega] at h
      exact h2 _ _ (hc i) (hc (i + j)) h
  apply Classical.byContradiction
  intro h
  have := php (N := 15) (M := 14) (itr g x) (fun k _ => hC _ (hc k)) (fun i j hi hj e => by
    rcases Nat.lt_trichotomy i j with c | c | c
    · exact absurd ⟨j - i, by omega, by omega, down i (j - i) (by rw [show i + (j - i) = j by omega]; exact e)⟩ h
    · exact c
    · exact absurd ⟨i - j, by omega, by omega, down j (i - j) (by rw [show j + (i - j) = i by omega]; exact e.symm)⟩ h)
  omega
theorem rgR_spec {g : Nat → Nat} {co : Nat} : ∀ (k l : Nat), 0 < l → (∀ u, 0 < u → u < l → itr g co u ≠ co) → (∃ v, l ≤ v ∧ v ≤ l + k ∧ itr g co v = co) → l ≤ rgR g co k l (itr g co l) ∧ itr g co (rgR g co k l (itr g co l)) = co ∧ ∀ u, 0 < u → u < rgR g co k l (itr g co l) → itr g co u ≠ co
  | 0, l, h0, h1, h2 => by
    simp only [rgR]
    obtain ⟨v, a, b, c⟩ := h2
    rw [show v = l by omega] at c
    exact ⟨Nat.le_refl _, c, h1⟩
  | k + 1, l, h0, h1, h2 => by
    simp only [rgR]
    split
    · rename_i h; exact ⟨Nat.le_refl _, h, h1⟩
    · rename_i h
      have := rgR_spec k (l + 1) (by omega) (fun u a b => by
        by_cases e : u = l
        · subst e; exact h
        · exact h1 u a (by omega)) (by
        obtain ⟨v, a, b, c⟩ := h2
        refine ⟨v, ?_, by omega, c⟩
        rcases Nat.lt_or_ge l v with x | x
        · omega
        · rw [show v = l by omega] at c; exact absurd c h)
      obtain ⟨a, b, c⟩ := this
      exact ⟨by have : l + 1 ≤ rgR g co k (l + 1) (g (itr g co l)) := a; omega, b, c⟩
theorem rgF_spec {C : Nat → Prop} {g : Nat → Nat} (hC : ∀ k, C k → k < 14) (h1 : ∀ p, C p → C (g p)) (h2 : ∀ p q, C p → C q → g p = g q → p = q) {x : Nat} (hx : C x) : 0 < rgF g x ∧ itr g x (rgF g x) = x ∧ ∀ u, 0 < u → u < rgF g x → itr g x u ≠ x := by
  obtain ⟨l, a, b, c⟩ := ring_ex hC h1 h2 hx
  have := rgR_spec (g := g) (co := x) 13 1 (by omega) (fun u a b => by omega) ⟨l, by omega, by omega, c⟩
  exact ⟨by have h : 1 ≤ rgF g x := this.1; omega, this.2⟩
theorem ring_mul {g : Nat → Nat} {x r : Nat} (h : itr g x r = x) : ∀ k, itr g x (r * k) = x
  | 0 => rfl
  | k + 1 => by rw [Nat.mul_succ, itr_add, ring_mul h k, h]
theorem ring_dvd {C : Nat → Prop} {g : Nat → Nat} (hC : ∀ k, C k → k < 14) (h1 : ∀ p, C p → C (g p)) (h2 : ∀ p q, C p → C q → g p = g q → p = q) {x : Nat} (hx : C x) (t : Nat) : itr g x t = x ↔ rgF g x ∣ t := by
  obtain ⟨a, b, c⟩ := rgF_spec hC h1 h2 hx
  constructor
  · intro h
    rcases Nat.eq_zero_or_pos (t % rgF g x) with e | e
    · exact Nat.dvd_of_mod_eq_zero e
    · exfalso
      refine c (t % rgF g x) e (Nat.mod_lt _ a) ?_
      have := Nat.div_add_mod t (rgF g x)
      rw [← this, itr_add, ring_mul b] at h
      exact h
  · rintro ⟨k, rfl⟩; exact ring_mul b k
theorem pdR_spec {CB : Nat} {g : Nat → Nat} : ∀ (k i l : Nat), (∀ t, pdR CB g k i l ∣ t ↔ l ∣ t ∧ ∀ j, i ≤ j → j < i + k → CB.testBit j = true → rgF g j ∣ t)
  | 0, i, l => by
    intro t; simp only [pdR]
    exact ⟨fun h => ⟨h, fun j a b => by omega⟩, fun h => h.1⟩
  | k + 1, i, l => by
    intro t; simp only [pdR]
    rw [pdR_spec k (i + 1)]
    constructor
    · rintro ⟨a, b⟩
      refine ⟨Nat.dvd_trans (Nat.dvd_lcm_left ..) a, fun j x y z => ?_⟩
      by_cases e : j = i
      · subst e
        rw [if_pos z] at a
        exact Nat.dvd_trans (Nat.dvd_lcm_right ..) a
      · exact b j (by omega) (by omega) z
    · rintro ⟨a, b⟩
      refine ⟨Nat.lcm_dvd a ?_, fun j x y z => b j (by omega) (by omega) z⟩
      split
      · rename_i h; exact b i (by omega) (by omega) h
      · exact Nat.one_dvd t
/-- the class's order: the least number of times that brings all back -/
theorem ord_spec {P : Nat → V3} {m CB : Nat} (hm : m ≤ 14) (hD : Dis P m) (hC : ∀ k, CB.testBit k = true ↔ isCor P m k) {g : Nat → Nat} (hg : sy P m g) : 0 < pdR CB g 14 0 1 ∧ (∀ p, isCor P m p → itr g p (pdR CB g 14 0 1) = p) ∧ ∀ u, 0 < u → u < pdR CB g 14 0 1 → ¬ ∀ p, isCor P m p → itr g p u = p := by
  have c14 : ∀ k, isCor P m k → k < 14 := fun k h => by have := h.1; omega
  have hi := fun p q hp hq e => sy_inj (p := p) (q := q) hD hg hp hq e
  have dv : ∀ t, pdR CB g 14 0 1 ∣ t ↔ ∀ p, isCor P m p → itr g p t = p := by
    intro t
    rw [pdR_spec]
    constructor
    · rintro ⟨_, h⟩ p hp
      exact (ring_dvd c14 hg.1 hi hp t).2 (h p (by omega) (by have := c14 p hp; omega) ((hC p).2 hp))
    · intro h
      exact ⟨Nat.one_dvd t, fun j _ _ z => (ring_dvd c14 hg.1 hi ((hC j).1 z) t).1 (h j ((hC j).1 z))⟩
  have pos : 0 < pdR CB g 14 0 1 := by
    rcases Nat.eq_zero_or_pos (pdR CB g 14 0 1) with e | e
    · exfalso
      -- the product of all rings is no 0
      have : ∀ (k : Nat), ∃ t, 0 < t ∧ ∀ p, p < k → isCor P m p → itr g p t = p := by
        intro k
        induction k with
        | zero => exact ⟨1, by omega, fun p h => by omega⟩
        | succ k ih =>
          obtain ⟨t, t1, t2⟩ := ih
          by_cases hk : isCor P m k
          · obtain ⟨a, b, _⟩ := rgF_spec c14 hg.1 hi hk
            refine ⟨t * rgF g k, Nat.mul_pos t1 a, fun p hp cp => ?_⟩
            by_cases ep : p = k
            · subst ep; rw [Nat.mul_comm]; exact ring_mul b t
            · exact ring_mul (t2 p (by omega) cp) _
          · exact ⟨t, t1, fun p hp cp => t2 p (by
              have : p ≠ k := by rintro rfl; exact hk cp
              omega) cp⟩
      obtain ⟨t, t1, t2⟩ := this 14
      have := (dv t).2 (fun p hp => t2 p (c14 p hp) hp)
      rw [e] at this
      have := Nat.eq_zero_of_zero_dvd this
      omega
    · exact e
  refine ⟨pos, (dv _).1 (Nat.dvd_refl _), fun u u1 u2 h => ?_⟩
  have := Nat.le_of_dvd u1 ((dv u).2 h)
  omega
/-- which hand: by any four corners with a body -/
theorem hand_eq {P : Nat → V3} {m : Nat} (hm : m ≤ 14) (hD : Dis P m) (hs : Sol P m) {s : Nat → Nat} (hsy : sy P m s) {p q r t p' q' r' t' : Nat} (hp : isCor P m p) (hq : isCor P m q) (hr : isCor P m r) (ht : isCor P m t) (hp' : isCor P m p') (hq' : isCor P m q') (hr' : isCor P m r') (ht' : isCor P m t') (h : bxs P p q r t ≠ 0) (h' : bxs P p' q' r' t' ≠ 0) : bxs P p q r t = bxs P (s p) (s q) (s r) (s t) ↔ bxs P p' q' r' t' = bxs P (s p') (s q') (s r') (s t') := by
  obtain ⟨e, he, hd⟩ := sy_det hm hD hs hsy
  rw [hd p q r t hp hq hr ht, hd p' q' r' t' hp' hq' hr' ht']
  rcases he with rfl | rfl
  · simp
  · constructor
    · intro x; exfalso; omega
    · intro x; exfalso; omega
/-- the flag's way in a face: along the edge or against it -/
def flg (P : Nat → V3) (m : Nat) (n : V3) (l : Int) (v w : Nat) : Prop := (expo P (fA P m n l) n v ∧ nxt P (fA P m n l) n v w) ∨ (expo P (fA P m n l) n w ∧ nxt P (fA P m n l) n w v)
theorem flg_ed {P : Nat → V3} {m : Nat} (hD : Dis P m) {n : V3} {l : Int} (hF : isF P m n l) {v w : Nat} (h : flg P m n l v w) : isEd P m v w ∧ fA P m n l v ∧ fA P m n l w := by
  rcases h with ⟨a, b⟩ | ⟨a, b⟩
  · exact ⟨ed_of hD hF a b, a.1, b.1⟩
  · exact ⟨isEd_symm (ed_of hD hF a b), b.1, a.1⟩
theorem ed_flg {P : Nat → V3} {m : Nat} (hD : Dis P m) {n : V3} {l : Int} (hF : isF P m n l) {v w : Nat} (h : isEd P m v w) (hv : fA P m n l v) (hw : fA P m n l w) : flg P m n l v w := by
  obtain ⟨hne, cp, cq, n1, l1, n2, l2, h1, h2, hn, p1, q1, p2, q2⟩ := h
  by_cases e : n = n1
  · subst e
    have el := isF_lev hF h1
    subst el
    rcases ed_two hD hne cp cq hF h2 hn hv hw p2 q2 with ⟨a, _, _⟩ | ⟨a, _, _⟩
    · exact Or.inl ⟨expo_of hF hv cp, a⟩
    · exact Or.inr ⟨expo_of hF hw cq, a⟩
  · rcases ed_two hD hne cp cq hF h1 e hv hw p1 q1 with ⟨a, _, _⟩ | ⟨a, _, _⟩
    · exact Or.inl ⟨expo_of hF hv cp, a⟩
    · exact Or.inr ⟨expo_of hF hw cq, a⟩
/-- a symmetry takes a face's corners to another's -/
def tkF (P : Nat → V3) (m : Nat) (s : Nat → Nat) (n : V3) (l : Int) (n' : V3) (l' : Int) : Prop := ∀ r, isCor P m r → (fA P m n' l' (s r) ↔ fA P m n l r)
/-- as many symmetries as flags just if each flag is met -/
theorem reg_spec {P : Nat → V3} {m N : Nat} {im : Nat → Nat → Nat} (hm : m ≤ 14) (hb : ∀ j, j < m → vbd 20 (P j)) (hD : Dis P m) (hL : SyL P m N im) {n0 : V3} {l0 : Int} (hF0 : isF P m n0 l0) {p q : Nat} (h0 : flg P m n0 l0 p q) : N = 4 * nE P m ↔ ∀ n l v w, isF P m n l → flg P m n l v w → ∃ i, i < N ∧ im i p = v ∧ im i q = w ∧ tkF P m (im i) n0 l0 n l := by
  obtain ⟨L1, L2, L3⟩ := id hL
  obtain ⟨⟨c1, c2, c3, c4⟩, call⟩ := blF_spec hm hb hD
  have hs := F_sol hF0
  have c14 : ∀ {p}, isCor P m p → p < 14 := fun h => by have := h.1; omega
  obtain ⟨e0, fp, fq⟩ := flg_ed hD hF0 h0
  -- how many flags
  have cnt' : ct (fun t => flg P m ((blF P m).2 (t / 196)).1 ((blF P m).2 (t / 196)).2.1 (t % 196 / 14) (t % 196 % 14)) (196 * (blF P m).1) = 4 * nE P m := by
    rw [ct_codes (fun f t => flg P m ((blF P m).2 f).1 ((blF P m).2 f).2.1 (t / 14) (t % 14)) 196 (by omega)]
    have each : sm (fun f => ct (fun t => flg P m ((blF P m).2 f).1 ((blF P m).2 f).2.1 (t / 14) (t % 14)) 196) (blF P m).1 = sm (fun f => fLen P m f + fLen P m f) (blF P m).1 := by
      refine sm_congr (fun f hf => ?_)
      obtain ⟨f1, f2, f3, f4⟩ := c2 f hf
      have lt14 : ∀ {k}, fA P m ((blF P m).2 f).1 ((blF P m).2 f).2.1 k → k < 14 := fun h => by have := h.1; omega
      have dirn : ∀ (sw : Bool), ct (fun t => expo P (fA P m ((blF P m).2 f).1 ((blF P m).2 f).2.1) ((blF P m).2 f).1 (if sw then t % 14 else t / 14) ∧ nxt P (fA P m ((blF P m).2 f).1 ((blF P m).2 f).2.1) ((blF P m).2 f).1 (if sw then t % 14 else t / 14) (if sw then t / 14 else t % 14)) 196 = fLen P m f := by
        intro sw
        have e := ct_bij (p := fun _ => True) (q := fun t => expo P (fA P m ((blF P m).2 f).1 ((blF P m).2 f).2.1) ((blF P m).2 f).1 (if sw then t % 14 else t / 14) ∧ nxt P (fA P m ((blF P m).2 f).1 ((blF P m).2 f).2.1) ((blF P m).2 f).1 (if sw then t % 14 else t / 14) (if sw then t / 14 else t % 14)) (N := fLen P m f) (M := 196)
          (fun k t => fRow P m f k = (if sw then t % 14 else t / 14))
          (fun k hk _ => by
            have x := f3.2.1 k hk
            obtain ⟨nx, _⟩ := rnd_nxk f3 hk
            have u := lt14 x.1
            have w := lt14 nx.1
            cases sw
            · refine ⟨14 * fRow P m f k + ((blF P m).2 f).2.2.2.2.2 (nxk ((blF P m).2 f) k), by show _ < 196; simp only [fRow]; omega, ?_, ?_⟩
              · simp only [Bool.false_eq_true, if_false]
                rw [show (14 * fRow P m f k + ((blF P m).2 f).2.2.2.2.2 (nxk ((blF P m).2 f) k)) / 14 = fRow P m f k by omega, show (14 * fRow P m f k + ((blF P m).2 f).2.2.2.2.2 (nxk ((blF P m).2 f) k)) % 14 = ((blF P m).2 f).2.2.2.2.2 (nxk ((blF P m).2 f) k) by omega]
                exact ⟨x, nx⟩
              · simp only [Bool.false_eq_true, if_false]; omega
            · refine ⟨14 * ((blF P m).2 f).2.2.2.2.2 (nxk ((blF P m).2 f) k) + fRow P m f k, by show _ < 196; simp only [fRow]; omega, ?_, ?_⟩
              · simp only [if_true]
                have u' : fRow P m f k < 14 := u
                rw [show (14 * ((blF P m).2 f).2.2.2.2.2 (nxk ((blF P m).2 f) k) + fRow P m f k) / 14 = ((blF P m).2 f).2.2.2.2.2 (nxk ((blF P m).2 f) k) by omega, show (14 * ((blF P m).2 f).2.2.2.2.2 (nxk ((blF P m).2 f) k) + fRow P m f k) % 14 = fRow P m f k by omega]
                exact ⟨x, nx⟩
              · have u' : fRow P m f k < 14 := u
                simp only [if_true]; omega)
          (fun t ht h => by
            obtain ⟨k, k1, k2⟩ := f3.2.2.2.1 _ h.1
            exact ⟨k, k1, trivial, k2⟩)
          (fun k j t hk hj _ _ _ x y => f3.2.2.1 k j hk hj (x.trans y.symm))
          (fun k t t' hk ht ht' h h' x y => by
            have e1 : (if sw then t % 14 else t / 14) = (if sw then t' % 14 else t' / 14) := x.symm.trans y
            have h2 := h'.2
            rw [← e1] at h2
            have e2 := F_sam hD f1 h.2.1 h2.1 (nxt_det (gcd3_ne f1.1) h.1 h.2 h2)
            cases sw
            · simp only [Bool.false_eq_true, if_false] at e1 e2; omega
            · simp only [if_true] at e1 e2; omega)
        rw [ct_all] at e
        exact e.symm
      have sp := ct_split (fun t => flg P m ((blF P m).2 f).1 ((blF P m).2 f).2.1 (t / 14) (t % 14)) (fun t => expo P (fA P m ((blF P m).2 f).1 ((blF P m).2 f).2.1) ((blF P m).2 f).1 (t / 14) ∧ nxt P (fA P m ((blF P m).2 f).1 ((blF P m).2 f).2.1) ((blF P m).2 f).1 (t / 14) (t % 14)) 196
      have s1 := ct_congr (N := 196) (p := fun t => flg P m ((blF P m).2 f).1 ((blF P m).2 f).2.1 (t / 14) (t % 14) ∧ (expo P (fA P m ((blF P m).2 f).1 ((blF P m).2 f).2.1) ((blF P m).2 f).1 (t / 14) ∧ nxt P (fA P m ((blF P m).2 f).1 ((blF P m).2 f).2.1) ((blF P m).2 f).1 (t / 14) (t % 14))) (q := fun t => expo P (fA P m ((blF P m).2 f).1 ((blF P m).2 f).2.1) ((blF P m).2 f).1 (t / 14) ∧ nxt P (fA P m ((blF P m).2 f).1 ((blF P m).2 f).2.1) ((blF P m).2 f).1 (t / 14) (t % 14)) (fun t _ => ⟨fun h => h.2, fun h => ⟨Or.inl h, h⟩⟩)
      have s2 := ct_congr (N := 196) (p := fun t => flg P m ((blF P m).2 f).1 ((blF P m).2 f).2.1 (t / 14) (t % 14) ∧ ¬ (expo P (fA P m ((blF P m).2 f).1 ((blF P m).2 f).2.1) ((blF P m).2 f).1 (t / 14) ∧ nxt P (fA P m ((blF P m).2 f).1 ((blF P m).2 f).2.1) ((blF P m).2 f).1 (t / 14) (t % 14))) (q := fun t => expo P (fA P m ((blF P m).2 f).1 ((blF P m).2 f).2.1) ((blF P m).2 f).1 (t % 14) ∧ nxt P (fA P m ((blF P m).2 f).1 ((blF P m).2 f).2.1) ((blF P m).2 f).1 (t % 14) (t / 14)) (fun t _ => ⟨fun h => h.1.resolve_left h.2, fun h => ⟨Or.inr h, fun h' => nxt_one hD f1 h'.1 h.1 h'.2 h.2 ⟨_, _, f3⟩⟩⟩)
      have d1 := dirn false
      have d2 := dirn true
      simp only [Bool.false_eq_true, if_false] at d1
      simp only [if_true] at d2
      omega
    rw [each, sm_add, sum_len hm hb hD]; omega
  -- where a symmetry takes the first flag
  have img : ∀ i, i < N → ∃ f, f < (blF P m).1 ∧ tkF P m (im i) n0 l0 ((blF P m).2 f).1 ((blF P m).2 f).2.1 ∧ flg P m ((blF P m).2 f).1 ((blF P m).2 f).2.1 (im i p) (im i q) := by
    intro i hi
    obtain ⟨n', l', F', h'⟩ := sy_face hm hD (L1 i hi) hF0
    obtain ⟨f, f1, f2, f3⟩ := call n' l' F'
    refine ⟨f, f1, by rw [f2, f3]; exact h', ?_⟩
    rw [f2, f3]
    exact ed_flg hD F' (sy_edge hm hD (L1 i hi) e0) ((h' p e0.2.1).2 fp) ((h' q e0.2.2.1).2 fq)
  -- the same flag: the same symmetry
  have uni : ∀ i j, i < N → j < N → ∀ n l, isF P m n l → tkF P m (im i) n0 l0 n l → tkF P m (im j) n0 l0 n l → im i p = im j p → im i q = im j q → i = j := by
    intro i j hi hj n l hF ti tj ep eq
    obtain ⟨t, ht, t1, t2⟩ := sy_inv hD (L1 j hj)
    have key : ∀ x, isCor P m x → t (im i x) = x := by
      have cs := sy_comp ht (L1 i hi)
      have fx : ∀ r, isCor P m r → fA P m n0 l0 r → fA P m n0 l0 (t (im i r)) := by
        intro r cr hr
        have a := (ti r cr).2 hr
        have b := (L1 i hi).1 r cr
        rw [← t2 _ b] at a
        exact (tj _ (ht.1 _ b)).1 a
      have e1 : t (im i p) = p := by rw [ep]; exact t1 p e0.2.1
      have e2 : t (im i q) = q := by rw [eq]; exact t1 q e0.2.2.1
      rcases h0 with ⟨xp, np⟩ | ⟨xq, nq⟩
      · exact flag_id hm hD cs hF0 xp np e1 e2 fx
      · exact flag_id hm hD cs hF0 xq nq e2 e1 fx
    refine L2 i j hi hj (fun x hx => ?_)
    rw [← t2 _ ((L1 i hi).1 x hx), key x hx]
  have code : ∀ f v w, v < 14 → w < 14 → (196 * f + (14 * v + w)) / 196 = f ∧ (196 * f + (14 * v + w)) % 196 / 14 = v ∧ (196 * f + (14 * v + w)) % 196 % 14 = w := by
    intro f v w hv hw; omega
  have toC : ∀ i, i < N → ∃ t, t < 196 * (blF P m).1 ∧ flg P m ((blF P m).2 (t / 196)).1 ((blF P m).2 (t / 196)).2.1 (t % 196 / 14) (t % 196 % 14) ∧ (im i p = t % 196 / 14 ∧ im i q = t % 196 % 14 ∧ tkF P m (im i) n0 l0 ((blF P m).2 (t / 196)).1 ((blF P m).2 (t / 196)).2.1) := by
    intro i hi
    obtain ⟨f, f1, f2, f3⟩ := img i hi
    have v14 := c14 ((L1 i hi).1 p e0.2.1)
    have w14 := c14 ((L1 i hi).1 q e0.2.2.1)
    obtain ⟨k1, k2, k3⟩ := code f _ _ v14 w14
    exact ⟨196 * f + (14 * im i p + im i q), by omega, by rw [k1, k2, k3]; exact ⟨f3, rfl, rfl, f2⟩⟩
  have injC : ∀ i j t, i < N → j < N → t < 196 * (blF P m).1 → (im i p = t % 196 / 14 ∧ im i q = t % 196 % 14 ∧ tkF P m (im i) n0 l0 ((blF P m).2 (t / 196)).1 ((blF P m).2 (t / 196)).2.1) → (im j p = t % 196 / 14 ∧ im j q = t % 196 % 14 ∧ tkF P m (im j) n0 l0 ((blF P m).2 (t / 196)).1 ((blF P m).2 (t / 196)).2.1) → i = j := by
    intro i j t hi hj ht a b
    have ft : t / 196 < (blF P m).1 := by omega
    exact uni i j hi hj _ _ (c2 _ ft).1 a.2.2 b.2.2 (a.1.trans b.1.symm) (a.2.1.trans b.2.1.symm)
  constructor
  · intro hN n l v w hF hfl
    obtain ⟨f, f1, f2, f3⟩ := call n l hF
    obtain ⟨ed, _, _⟩ := flg_ed hD hF hfl
    obtain ⟨k1, k2, k3⟩ := code f v w (c14 ed.2.1) (c14 ed.2.2.1)
    apply Classical.byContradiction
    intro hno
    -- then there are fewer symmetries than flags
    have a := ct_rel (p := fun _ => True) (q := fun t => flg P m ((blF P m).2 (t / 196)).1 ((blF P m).2 (t / 196)).2.1 (t % 196 / 14) (t % 196 % 14) ∧ t ≠ 196 * f + (14 * v + w)) (N := N) (M := 196 * (blF P m).1)
      (fun i t => im i p = t % 196 / 14 ∧ im i q = t % 196 % 14 ∧ tkF P m (im i) n0 l0 ((blF P m).2 (t / 196)).1 ((blF P m).2 (t / 196)).2.1)
      (fun i hi _ => by
        obtain ⟨t, t1, t2, t3⟩ := toC i hi
        refine ⟨t, t1, ⟨t2, fun e => hno ?_⟩, t3⟩
        rw [e, k1, k2, k3, f2, f3] at t3
        exact ⟨i, hi, t3⟩)
      (fun i j t hi hj _ _ ht x y => injC i j t hi hj ht x y)
    have w14 := c14 ed.2.2.1
    have v14 := c14 ed.2.1
    have b := ct_pop (q := fun t => flg P m ((blF P m).2 (t / 196)).1 ((blF P m).2 (t / 196)).2.1 (t % 196 / 14) (t % 196 % 14)) (M := 196 * (blF P m).1) (j := 196 * f + (14 * v + w)) (by omega) (by rw [k1, k2, k3, f2, f3]; exact hfl)
    rw [ct_all] at a
    omega
  · intro hall
    rw [← cnt']
    have a := ct_bij (p := fun _ => True) (q := fun t => flg P m ((blF P m).2 (t / 196)).1 ((blF P m).2 (t / 196)).2.1 (t % 196 / 14) (t % 196 % 14)) (N := N) (M := 196 * (blF P m).1)
      (fun i t => im i p = t % 196 / 14 ∧ im i q = t % 196 % 14 ∧ tkF P m (im i) n0 l0 ((blF P m).2 (t / 196)).1 ((blF P m).2 (t / 196)).2.1)
      (fun i hi _ => by obtain ⟨t, t1, t2, t3⟩ := toC i hi; exact ⟨t, t1, t2, t3⟩)
      (fun t ht h => by
        have ft : t / 196 < (blF P m).1 := by omega
        obtain ⟨i, i1, i2, i3, i4⟩ := hall _ _ _ _ (c2 _ ft).1 h
        exact ⟨i, i1, trivial, i2, i3, i4⟩)
      (fun i j t hi hj _ _ ht x y => injC i j t hi hj ht x y)
      (fun i t t' hi ht ht' _ _ x y => by
        have ft : t / 196 < (blF P m).1 := by omega
        have ft' : t' / 196 < (blF P m).1 := by omega
        have e1 : t % 196 / 14 = t' % 196 / 14 := x.1.symm.trans y.1
        have e2 : t % 196 % 14 = t' % 196 % 14 := x.2.1.symm.trans y.2.1
        have e3 : t / 196 = t' / 196 := by
          refine c3 _ _ ft ft' ?_
          -- the same corners
          have F1 := (c2 _ ft).1
          have F2 := (c2 _ ft').1
          obtain ⟨R, L, hR⟩ := F_rnd hm hD F1
          obtain ⟨⟨l3, _⟩, ex, _⟩ := id hR
          have on : ∀ k, k < L → fA P m ((blF P m).2 (t' / 196)).1 ((blF P m).2 (t' / 196)).2.1 (R k) := by
            intro k hk
            obtain ⟨r, hr, er⟩ := sy_surj hD (L1 i hi) (cor_of hD F1 (ex k hk))
            have := (ex k hk).1
            rw [← er] at this ⊢
            exact (y.2.2 r hr).2 ((x.2.2 r hr).1 this)
          exact (F_uni F1 F2 (rnd_012 hD F1 hR) (ex 0 (by omega)).1.2 (ex 1 (by omega)).1.2 (ex 2 (by omega)).1.2 (on 0 (by omega)).2 (on 1 (by omega)).2 (on 2 (by omega)).2).1
        omega)
    rw [ct_all] at a
    exact a
