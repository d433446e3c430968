theorem bsK_spec (x : FD) (p q : Nat) : ∀ (j k : Nat) (b : Nat → Nat), (bsK x j k b p).testBit q = true ↔ (b p).testBit q = true ∨ ∃ t, k ≤ t ∧ t < k + j ∧ x.2.2.2.2.2 t = p ∧ x.2.2.2.2.2 (nxk x t) = q
  | 0, k, b => by
    simp only [bsK]
    constructor
    · exact Or.inl
    · rintro (h | ⟨t, a, b, _⟩)
      · exact h
      · omega
  | j + 1, k, b => by
    simp only [bsK]
    rw [bsK_spec x p q j (k + 1)]
    by_cases e : p = x.2.2.2.2.2 k
    · subst e
      rw [nup_s, tb_or, Bool.or_eq_true, decide_eq_true_eq]
      constructor
      · rintro ((h | h) | ⟨t, a, b, c⟩)
        · exact Or.inl h
        · exact Or.inr ⟨k, by omega, by omega, rfl, h⟩
        · exact Or.inr ⟨t, by omega, by omega, c⟩
      · rintro (h | ⟨t, a, b, c, d⟩)
        · exact Or.inl (Or.inl h)
        · by_cases e : t = k
          · subst e; exact Or.inl (Or.inr d)
          · exact Or.inr ⟨t, by omega, by omega, c, d⟩
    · rw [nup_n e]
      constructor
      · rintro (h | ⟨t, a, b, c⟩)
        · exact Or.inl h
        · exact Or.inr ⟨t, by omega, by omega, c⟩
      · rintro (h | ⟨t, a, b, c, d⟩)
        · exact Or.inl h
        · by_cases e2 : t = k
          · subst e2; exact absurd c.symm e
          · exact Or.inr ⟨t, by omega, by omega, c, d⟩
theorem jnR_spec (f : Nat → FD) : ∀ (k i cb sd : Nat) (b : Nat → Nat),
    (∀ v, (jnR f k i cb sd b).1.testBit v = true ↔ cb.testBit v = true ∨ ∃ j, i ≤ j ∧ j < i + k ∧ (f j).2.2.2.1.testBit v = true) ∧
    (jnR f k i cb sd b).2.1 + sm (fun j => (f j).2.2.2.2.1) i = sd + sm (fun j => (f j).2.2.2.2.1) (i + k) ∧
    ∀ p q, ((jnR f k i cb sd b).2.2 p).testBit q = true ↔ (b p).testBit q = true ∨ ∃ j, i ≤ j ∧ j < i + k ∧ ∃ t, t < (f j).2.2.2.2.1 ∧ (f j).2.2.2.2.2 t = p ∧ (f j).2.2.2.2.2 (nxk (f j) t) = q
  | 0, i, cb, sd, b => by
    simp only [jnR]
    refine ⟨fun v => ⟨Or.inl, ?_⟩, by rw [Nat.add_zero], fun p q => ⟨Or.inl, ?_⟩⟩
    · rintro (h | ⟨j, a, b, _⟩)
      · exact h
      · omega
    · rintro (h | ⟨j, a, b, _⟩)
      · exact h
      · omega
  | k + 1, i, cb, sd, b => by
    simp only [jnR]
    obtain ⟨h1, h2, h3⟩ := jnR_spec f k (i + 1) (cb ||| (f i).2.2.2.1) (sd + (f i).2.2.2.2.1) (bsK (f i) (f i).2.2.2.2.1 0 b)
    refine ⟨fun v => ?_, ?_, fun p q => ?_⟩
    · rw [h1, Nat.testBit_or, Bool.or_eq_true]
      constructor
      · rintro ((h | h) | ⟨j, a, b, c⟩)
        · exact Or.inl h
        · exact Or.inr ⟨i, by omega, by omega, h⟩
        · exact Or.inr ⟨j, by omega, by omega, c⟩
      · rintro (h | ⟨j, a, b, c⟩)
        · exact Or.inl (Or.inl h)
        · by_cases e : j = i
          · subst e; exact Or.inl (Or.inr c)
          · exact Or.inr ⟨j, by omega, by omega, c⟩
    · simp only [sm] at h2
      rw [show i + (k + 1) = i + 1 + k by omega]; omega
    · rw [h3, bsK_spec]
      constructor
      · rintro ((h | ⟨t, a, b, c, d⟩) | ⟨j, a, b, c⟩)
        · exact Or.inl h
        · exact Or.inr ⟨i, by omega, by omega, t, by omega, c, d⟩
        · exact Or.inr ⟨j, by omega, by omega, c⟩
      · rintro (h | ⟨j, a, b, t, c, d⟩)
        · exact Or.inl (Or.inl h)
        · by_cases e : j = i
          · subst e; exact Or.inl (Or.inr ⟨t, by omega, by omega, d⟩)
          · exact Or.inr ⟨j, by omega, by omega, t, c, d⟩
theorem blF_sol {P : Nat → V3} {m : Nat} (hm : m ≤ 14) (hb : ∀ j, j < m → vbd 20 (P j)) (hD : Dis P m) : 0 < (blF P m).1 ↔ Sol P m := by
  obtain ⟨cl, call⟩ := blF_spec hm hb hD
  constructor
  · intro h; exact F_sol (cl.2.1 0 h).1
  · intro h
    have hm0 : 0 < m := by obtain ⟨p, _, _, _, hp, _⟩ := h; omega
    obtain ⟨v, v1, v2⟩ := ex_max (fun k => dot (1, 0, 0) (P k)) m hm0
    obtain ⟨n, l, hF, _⟩ := F_ex h (n := (1, 0, 0)) (by simp [vO]) v1 v2
    obtain ⟨i, i1, _⟩ := call n l hF
    omega
/-- a corner lies in a face -/
theorem cor_face {P : Nat → V3} {m : Nat} (hm : m ≤ 14) (hD : Dis P m) (hs : Sol P m) {v : Nat} (h : isCor P m v) : ∃ n l, isF P m n l ∧ fA P m n l v := by
  obtain ⟨n1, l1, n2, l2, n3, l3, F1, _, _, v1, _⟩ := cor_has hm hD hs h
  exact ⟨n1, l1, F1, v1⟩
theorem hCB_spec {P : Nat → V3} {m : Nat} (hm : m ≤ 14) (hb : ∀ j, j < m → vbd 20 (P j)) (hD : Dis P m) (hs : Sol P m) (v : Nat) : (hCB P m).testBit v = true ↔ isCor P m v := by
  obtain ⟨cl, call⟩ := blF_spec hm hb hD
  simp only [hCB]
  rw [(jnR_spec _ _ _ _ _ _).1]
  constructor
  · rintro (h | ⟨j, _, b, c⟩)
    · simp at h
    · have fj := cl.2.1 j (by omega)
      exact cor_of hD fj.1 ((fj.2.2.2 v).1 c)
  · intro h
    obtain ⟨n, l, hF, hv⟩ := cor_face hm hD hs h
    obtain ⟨i, i1, i2, i3⟩ := call n l hF
    have fi := cl.2.1 i i1
    refine Or.inr ⟨i, by omega, by omega, (fi.2.2.2 v).2 ?_⟩
    rw [i2, i3]
    exact expo_of hF hv h
theorem rnd_nxk {P : Nat → V3} {A : Nat → Prop} {x : FD} (h : rnd P A x.1 x.2.2.2.2.2 x.2.2.2.2.1) {t : Nat} (ht : t < x.2.2.2.2.1) : nxt P A x.1 (x.2.2.2.2.2 t) (x.2.2.2.2.2 (nxk x t)) ∧ nxk x t < x.2.2.2.2.1 := by
  simp only [nxk]
  split
  · rename_i e; exact ⟨h.2.2.2.2.2.1 t e, e⟩
  · rename_i e
    have : t = x.2.2.2.2.1 - 1 := by omega
    rw [this]
    exact ⟨h.2.2.2.2.2.2, by have := h.1.1; omega⟩
theorem hBs_spec {P : Nat → V3} {m : Nat} (hm : m ≤ 14) (hb : ∀ j, j < m → vbd 20 (P j)) (hD : Dis P m) (p q : Nat) : (hBs P m p).testBit q = true ↔ isEd P m p q := by
  obtain ⟨cl, call⟩ := blF_spec hm hb hD
  simp only [hBs]
  rw [(jnR_spec _ _ _ _ _ _).2.2]
  constructor
  · rintro (h | ⟨j, _, b, t, c, rfl, rfl⟩)
    · simp at h
    · have fj := cl.2.1 j (by omega)
      exact ed_of hD fj.1 (fj.2.2.1.2.1 t c) (rnd_nxk fj.2.2.1 c).1
  · intro h
    obtain ⟨n, l, hF, hp, hn⟩ := ed_nxt hD h
    obtain ⟨i, i1, i2, i3⟩ := call n l hF
    have fi := cl.2.1 i i1
    obtain ⟨f1, f2, f3, f4⟩ := fi
    rw [← i2, ← i3] at hp hn
    obtain ⟨t, t1, t2⟩ := f3.2.2.2.1 p hp
    refine Or.inr ⟨i, by omega, by omega, t, t1, t2, ?_⟩
    have nx := (rnd_nxk f3 t1).1
    rw [t2] at nx
    exact (F_sam hD f1 hn.1 nx.1 (nxt_det (gcd3_ne f1.1) hp hn nx)).symm
/-- how many edges -/
noncomputable def nE (P : Nat → V3) (m : Nat) : Nat := sm (fun p => ct (fun q => isEd P m p q ∧ q < p) 14) 14
theorem ct_codes (R : Nat → Nat → Prop) (w : Nat) (hw : 0 < w) : ∀ M, ct (fun c => R (c / w) (c % w)) (w * M) = sm (fun p => ct (R p) w) M
  | 0 => rfl
  | M + 1 => by
    simp only [sm]
    rw [← ct_codes R w hw M, Nat.mul_succ]
    have : ∀ j, j ≤ w → ct (fun c => R (c / w) (c % w)) (w * M + j) = ct (fun c => R (c / w) (c % w)) (w * M) + ct (R M) j := by
      intro j
      induction j with
      | zero => intro _; rfl
      | succ j ih =>
        intro hj
        have e1 : (w * M + j) / w = M := by
          rw [Nat.mul_add_div hw, Nat.div_eq_of_lt (by omega), Nat.add_zero]
        have e2 : (w * M + j) % w = j := by
          rw [Nat.mul_add_mod, Nat.mod_eq_of_lt (by omega)]
        rw [← Nat.add_assoc]
        by_cases h : R M j
        · rw [ct_t (p := fun c => R (c / w) (c % w)) (by rw [e1, e2]; exact h), ct_t h, ih (by omega)]; omega
        · rw [ct_f (p := fun c => R (c / w) (c % w)) (by rw [e1, e2]; exact h), ct_f h, ih (by omega)]
    exact this w (Nat.le_refl _)
theorem sum_len {P : Nat → V3} {m : Nat} (hm : m ≤ 14) (hb : ∀ j, j < m → vbd 20 (P j)) (hD : Dis P m) : sm (fun i => fLen P m i) (blF P m).1 = 2 * nE P m := by
  obtain ⟨cl, call⟩ := blF_spec hm hb hD
  obtain ⟨c1, c2, c3, c4⟩ := cl
  -- the sides of a face as pairs
  have a : sm (fun i => fLen P m i) (blF P m).1 = sm (fun i => ct (fun c => expo P (fA P m ((blF P m).2 i).1 ((blF P m).2 i).2.1) ((blF P m).2 i).1 (c / 14) ∧ nxt P (fA P m ((blF P m).2 i).1 ((blF P m).2 i).2.1) ((blF P m).2 i).1 (c / 14) (c % 14)) 196) (blF P m).1 := by
    apply sm_congr
    intro i hi
    obtain ⟨f1, f2, f3, f4⟩ := c2 i hi
    have lt14 : ∀ {k}, fA P m ((blF P m).2 i).1 ((blF P m).2 i).2.1 k → k < 14 := fun h => by have := h.1; omega
    have e := ct_bij (p := fun _ => True) (q := fun c => expo P (fA P m ((blF P m).2 i).1 ((blF P m).2 i).2.1) ((blF P m).2 i).1 (c / 14) ∧ nxt P (fA P m ((blF P m).2 i).1 ((blF P m).2 i).2.1) ((blF P m).2 i).1 (c / 14) (c % 14)) (N := fLen P m i) (M := 196)
      (fun k c => fRow P m i k = c / 14)
      (fun k hk _ => by
        have x := f3.2.1 k hk
        obtain ⟨nx, _⟩ := rnd_nxk f3 hk
        have u := lt14 x.1
        have w := lt14 nx.1
        refine ⟨14 * fRow P m i k + ((blF P m).2 i).2.2.2.2.2 (nxk ((blF P m).2 i) k), by show _ < 196; simp only [fRow]; omega, ?_, ?_⟩
        · rw [show (14 * fRow P m i k + ((blF P m).2 i).2.2.2.2.2 (nxk ((blF P m).2 i) k)) / 14 = fRow P m i k by omega, show (14 * fRow P m i k + ((blF P m).2 i).2.2.2.2.2 (nxk ((blF P m).2 i) k)) % 14 = ((blF P m).2 i).2.2.2.2.2 (nxk ((blF P m).2 i) k) by omega]
          exact ⟨x, nx⟩
        · omega)
      (fun c hc h => by
        obtain ⟨k, k1, k2⟩ := f3.2.2.2.1 _ h.1
        exact ⟨k, k1, trivial, k2⟩)
      (fun k j c hk hj _ _ _ x y => f3.2.2.1 k j hk hj (x.trans y.symm))
      (fun k c c' hk hc hc' h h' x y => by
        have e1 : c / 14 = c' / 14 := x.symm.trans y
        have e2 : c % 14 = c' % 14 := by
          have h2 := h'.2
          rw [← e1] at h2
          exact F_sam hD f1 h.2.1 h2.1 (nxt_det (gcd3_ne f1.1) h.1 h.2 h2)
        omega)
    rw [ct_all] at e
    exact e
  rw [a, sm_swap]
  have b : sm (fun c => ct (fun i => expo P (fA P m ((blF P m).2 i).1 ((blF P m).2 i).2.1) ((blF P m).2 i).1 (c / 14) ∧ nxt P (fA P m ((blF P m).2 i).1 ((blF P m).2 i).2.1) ((blF P m).2 i).1 (c / 14) (c % 14)) (blF P m).1) 196 = sm (fun c => @ite Nat (isEd P m (c / 14) (c % 14)) (Classical.propDecidable _) 1 0) 196 := by
    apply sm_congr
    intro c hc
    by_cases h : isEd P m (c / 14) (c % 14)
    · rw [if_pos h]
      obtain ⟨n, l, hF, hp, hn⟩ := ed_nxt hD h
      obtain ⟨i, i1, i2, i3⟩ := call n l hF
      refine ct_one i1 (fun j hj => ⟨fun hh => ?_, fun e => ?_⟩)
      · obtain ⟨u1, u2⟩ := dir_one hm hD (c2 j hj).1 hF hh.1 hp hh.2 hn
        exact c3 j i hj i1 (u1.trans i2.symm)
      · subst e; rw [i2, i3]; exact ⟨hp, hn⟩
    · rw [if_neg h]
      exact ct_none (fun i hi hh => h (ed_of hD (c2 i hi).1 hh.1 hh.2))
  rw [b, sm_ind, show (196 : Nat) = 14 * 14 from rfl, ct_codes (fun p q => isEd P m p q) 14 (by omega)]
  have c : sm (fun p => ct (fun q => isEd P m p q) 14) 14 = sm (fun p => ct (fun q => isEd P m p q ∧ q < p) 14) 14 + sm (fun p => ct (fun q => isEd P m p q ∧ ¬ q < p) 14) 14 := by
    rw [← sm_add]
    exact sm_congr (fun p _ => ct_split ..)
  have d : sm (fun p => ct (fun q => isEd P m p q ∧ ¬ q < p) 14) 14 = sm (fun p => ct (fun q => isEd P m p q ∧ q < p) 14) 14 := by
    rw [sm_swap]
    refine sm_congr (fun p _ => ct_congr (fun q _ => ?_))
    constructor
    · rintro ⟨x, y⟩; exact ⟨isEd_symm x, by have := x.1; omega⟩
    · rintro ⟨x, y⟩; exact ⟨isEd_symm x, by omega⟩
  rw [c, d]
  simp only [nE]; omega
theorem hE_spec {P : Nat → V3} {m : Nat} (hm : m ≤ 14) (hb : ∀ j, j < m → vbd 20 (P j)) (hD : Dis P m) : hE P m = nE P m := by
  have a := (jnR_spec (blF P m).2 (blF P m).1 0 0 0 (fun _ => 0)).2.1
  have b := sum_len hm hb hD
  simp only [sm, Nat.zero_add, Nat.add_zero] at a
  simp only [hE]
  rw [a]
  have e : sm (fun j => ((blF P m).2 j).2.2.2.2.1) (blF P m).1 = 2 * nE P m := b
  rw [e]; omega
