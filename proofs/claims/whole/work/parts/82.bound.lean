theorem orb_div {N M K : Nat} (act : Nat → Nat → Nat) (hM : ∀ S i, i < N → act i S < M) : ∀ (n : Nat) (X : Nat → Prop), ct X M = n → (∀ S, X S → S < M) → (∀ S i, X S → i < N → X (act i S)) → (∀ S, X S → ct (fun i => act i S = S) N ∣ K) → (∀ S j, X S → j < N → ct (fun i => act i S = act j S) N = ct (fun i => act i S = S) N) → (∀ S T i j, X S → X T → i < N → j < N → act i T = act j S → ∃ k, k < N ∧ act k S = T) → N ∣ K * ct X M := by
  intro n
  induction n using Nat.strongRecOn with
  | ind n ih =>
    intro X hn hX h1 h2 h3 h4
    by_cases hex : ∃ S, X S
    · obtain ⟨S, hS⟩ := hex
      by_cases hN : N = 0
      · subst hN
        -- nothing acts: the stabiliser is empty
        have := h2 S hS
        simp only [ct] at this
        have : K = 0 := Nat.eq_zero_of_zero_dvd this
        rw [this, Nat.zero_mul]; exact Nat.dvd_refl 0
      have key : N = ct (fun i => act i S = S) N * ct (fun T => ∃ i, i < N ∧ act i S = T) M := by
        have a := sm_swap (fun T i => act i S = T) M N
        have b : sm (fun i => ct (fun T => act i S = T) M) N = N := by
          rw [sm_congr (g := fun _ => 1) (fun i hi => ct_one (hM S i hi) (fun T _ => ⟨fun e => e.symm, fun e => e.symm⟩)), sm_const, Nat.one_mul]
        have c : sm (fun T => ct (fun i => act i S = T) N) M = sm (fun T => @ite Nat (∃ i, i < N ∧ act i S = T) (Classical.propDecidable _) (ct (fun i => act i S = S) N) 0) M := by
          refine sm_congr (fun T _ => ?_)
          by_cases e : ∃ i, i < N ∧ act i S = T
          · rw [if_pos e]
            obtain ⟨j, j1, rfl⟩ := e
            exact h3 S j hS j1
          · rw [if_neg e]; exact ct_none (fun i hi h => e ⟨i, hi, h⟩)
        rw [c, sm_ct, b] at a
        exact a.symm
      have sp := ct_split X (fun T => ∃ i, i < N ∧ act i S = T) M
      have o := ct_congr (N := M) (p := fun T => X T ∧ ∃ i, i < N ∧ act i S = T) (q := fun T => ∃ i, i < N ∧ act i S = T) (fun T _ => ⟨fun h => h.2, fun h => ⟨by obtain ⟨i, i1, rfl⟩ := h; exact h1 S i hS i1, h⟩⟩)
      rw [o] at sp
      have opos : 0 < ct (fun T => ∃ i, i < N ∧ act i S = T) M := by
        rcases Nat.eq_zero_or_pos (ct (fun T => ∃ i, i < N ∧ act i S = T) M) with e | e
        · rw [e, Nat.mul_zero] at key; exact absurd key hN
        · exact e
      have r := ih (ct (fun T => X T ∧ ¬ ∃ i, i < N ∧ act i S = T) M) (by omega) (fun T => X T ∧ ¬ ∃ i, i < N ∧ act i S = T) rfl (fun T h => hX T h.1) (fun T i h hi => ⟨h1 T i h.1 hi, fun ⟨j, j1, j2⟩ => h.2 (h4 S T i j hS h.1 hi j1 j2.symm)⟩) (fun T h => h2 T h.1) (fun T j h hj => h3 T j h.1 hj) (fun T T' i j h h' hi hj e => h4 T T' i j h.1 h'.1 hi hj e)
      obtain ⟨t, ht⟩ := h2 S hS
      rw [sp, Nat.mul_add]
      refine (Nat.dvd_add_iff_left r).1 ?_
      rw [ht, Nat.mul_comm (ct (fun i => act i S = S) N) t, Nat.mul_assoc, ← key]
      exact Nat.dvd_mul_left N t
    · rw [ct_none (p := X) (fun T _ h => hex ⟨T, h⟩), Nat.mul_zero]; exact Nat.dvd_zero N
/-- the image of a set, as bits -/
noncomputable def imS (P : Nat → V3) (m : Nat) (s : Nat → Nat) (S : Nat) : Nat := bts (fun q => @decide (∃ p, isCor P m p ∧ S.testBit p = true ∧ s p = q) (Classical.propDecidable _)) 14
theorem imS_spec {P : Nat → V3} {m : Nat} (hm : m ≤ 14) {s : Nat → Nat} (hs : sy P m s) (S q : Nat) : (imS P m s S).testBit q = true ↔ ∃ p, isCor P m p ∧ S.testBit p = true ∧ s p = q := by
  simp only [imS]
  rw [bts_spec, @decide_eq_true_eq _ (Classical.propDecidable _)]
  constructor
  · exact fun h => h.2
  · rintro ⟨p, hp, h1, h2⟩
    refine ⟨?_, p, hp, h1, h2⟩
    rw [← h2]; have := (hs.1 p hp).1; omega
theorem bts_lt2 (p : Nat → Bool) : ∀ N, bts p N < 2 ^ N
  | 0 => by simp [bts]
  | N + 1 => by
    simp only [bts]
    refine Nat.or_lt_two_pow (Nat.lt_of_lt_of_le (bts_lt2 p N) (Nat.pow_le_pow_right (by omega) (by omega))) ?_
    split
    · exact Nat.pow_lt_pow_right (by omega) (by omega)
    · exact Nat.pow_pos (by omega)
theorem bits_eq {a b : Nat} (h : ∀ k, a.testBit k = true ↔ b.testBit k = true) : a = b := by
  apply Nat.eq_of_testBit_eq
  intro k
  have := h k
  cases x : a.testBit k <;> cases y : b.testBit k
  · rfl
  · rw [x, y] at this; simp at this
  · rw [x, y] at this; simp at this
  · rfl
/-- a set of corners that stands out -/
def outS (P : Nat → V3) (m S : Nat) : Prop := (∀ p, S.testBit p = true → isCor P m p) ∧ (∃ p, S.testBit p = true) ∧ (∃ p, isCor P m p ∧ S.testBit p = false) ∧ ∃ c z, ∀ p, isCor P m p → (S.testBit p = true → dot c (P p) = z) ∧ (S.testBit p = false → dot c (P p) < z)
theorem out_div {P : Nat → V3} {m N : Nat} {im : Nat → Nat → Nat} (hm : m ≤ 14) (hD : Dis P m) (hs : Sol P m) (hL : SyL P m N im) (X : Nat → Prop) (hX : ∀ S, X S → outS P m S) (hinv : ∀ S i, X S → i < N → X (imS P m (im i) S)) : N ∣ 24 * ct X 16384 := by
  obtain ⟨L1, L2, L3⟩ := id hL
  have lt : ∀ S i, imS P m (im i) S < 16384 := fun S i => bts_lt2 _ 14
  have sb : ∀ S, X S → ∀ i, i < N → (imS P m (im i) S = S ↔ ∀ p, isCor P m p → (S.testBit (im i p) = true ↔ S.testBit p = true)) := by
    intro S hS i hi
    have h := hX S hS
    constructor
    · intro e p hp
      constructor
      · intro h1
        rw [← e, imS_spec hm (L1 i hi)] at h1
        obtain ⟨q, hq, q1, q2⟩ := h1
        have := sy_inj hD (L1 i hi) hq hp q2
        rw [← this]; exact q1
      · intro h1
        rw [← e, imS_spec hm (L1 i hi)]
        exact ⟨p, hp, h1, rfl⟩
    · intro e
      refine bits_eq (fun q => ?_)
      rw [imS_spec hm (L1 i hi)]
      constructor
      · rintro ⟨p, hp, h1, rfl⟩; exact (e p hp).2 h1
      · intro h1
        obtain ⟨p, hp, rfl⟩ := sy_surj hD (L1 i hi) (h.1 q h1)
        exact ⟨p, hp, (e p hp).1 h1, rfl⟩
  have comp : ∀ S, X S → ∀ i j k, i < N → j < N → k < N → (∀ p, isCor P m p → im k p = im i (im j p)) → imS P m (im k) S = imS P m (im i) (imS P m (im j) S) := by
    intro S hS i j k hi hj hk e
    refine bits_eq (fun q => ?_)
    rw [imS_spec hm (L1 k hk), imS_spec hm (L1 i hi)]
    constructor
    · rintro ⟨p, hp, h1, rfl⟩
      exact ⟨im j p, (L1 j hj).1 p hp, (imS_spec hm (L1 j hj) S _).2 ⟨p, hp, h1, rfl⟩, (e p hp).symm⟩
    · rintro ⟨r, hr, h1, rfl⟩
      obtain ⟨p, hp, p1, rfl⟩ := (imS_spec hm (L1 j hj) S r).1 h1
      exact ⟨p, hp, p1, e p hp⟩
  have inj : ∀ S T, X S → X T → ∀ i, i < N → imS P m (im i) S = imS P m (im i) T → S = T := by
    intro S T hS hT i hi e
    refine bits_eq (fun q => ?_)
    constructor
    · intro h1
      have hq := (hX S hS).1 q h1
      have : (imS P m (im i) S).testBit (im i q) = true := (imS_spec hm (L1 i hi) S _).2 ⟨q, hq, h1, rfl⟩
      rw [e, imS_spec hm (L1 i hi)] at this
      obtain ⟨p, hp, p1, p2⟩ := this
      rw [← sy_inj hD (L1 i hi) hp hq p2]; exact p1
    · intro h1
      have hq := (hX T hT).1 q h1
      have : (imS P m (im i) T).testBit (im i q) = true := (imS_spec hm (L1 i hi) T _).2 ⟨q, hq, h1, rfl⟩
      rw [← e, imS_spec hm (L1 i hi)] at this
      obtain ⟨p, hp, p1, p2⟩ := this
      rw [← sy_inj hD (L1 i hi) hp hq p2]; exact p1
  refine orb_div (fun i S => imS P m (im i) S) (fun S i _ => lt S i) _ X rfl (fun S h => ?_) hinv (fun S h => ?_) (fun S j h hj => ?_) (fun S T i j hS hT hi hj e => ?_)
  · obtain ⟨a, _⟩ := hX S h
    have : S = bts (fun p => S.testBit p) 14 := bits_eq (fun k => by
      rw [bts_spec]
      constructor
      · intro h1; exact ⟨by have := (a k h1).1; omega, h1⟩
      · exact fun h1 => h1.2)
    rw [this]; exact bts_lt2 _ 14
  · obtain ⟨a, ⟨p1, hp1⟩, ⟨p2, cp2, hp2⟩, c, z, hc⟩ := hX S h
    have ax := axis (S := fun p => S.testBit p = true) hm hD hs hL (c := c) (z := z) (fun p hp h => (hc p hp).1 h) (fun p hp h => (hc p hp).2 (by simpa using h)) ⟨p1, a p1 hp1, hp1⟩ ⟨p2, cp2, by simp [hp2]⟩
    have e := ct_congr (N := N) (p := fun i => imS P m (im i) S = S) (q := fun i => ∀ p, isCor P m p → (S.testBit (im i p) = true ↔ S.testBit p = true)) (fun i hi => sb S h i hi)
    rw [e]; exact ax
  · refine (coset hD hL hj (fun i i' hi hi' e => ?_)).symm
    show imS P m (im i') S = S ↔ imS P m (im i) S = imS P m (im j) S
    rw [comp S h j i' i hj hi' hi e]
    constructor
    · intro t; rw [t]
    · intro t; exact inj _ _ (hinv S i' h hi') h j hj t
  · obtain ⟨t, ht, t1, t2⟩ := sy_inv hD (L1 i hi)
    obtain ⟨k, k1, k2⟩ := L3 _ (sy_comp ht (L1 j hj))
    refine ⟨k, k1, ?_⟩
    have e' : imS P m (im i) T = imS P m (im j) S := e
    refine inj _ _ (hinv S k hS k1) hT i hi ?_
    rw [e', ← comp S hS i k j hi k1 hj (fun p hp => by rw [k2 p hp, t2 _ ((L1 j hj).1 p hp)])]
/-- no solid with whole corners has more than 48 symmetries -/
theorem sy_48 {P : Nat → V3} {m N : Nat} {im : Nat → Nat → Nat} (hm : m ≤ 14) (hb : ∀ j, j < m → vbd 20 (P j)) (hD : Dis P m) (hs : Sol P m) (hL : SyL P m N im) : N ≤ 48 := by
  obtain ⟨L1, L2, L3⟩ := id hL
  obtain ⟨⟨c1, c2, c3, c4⟩, call⟩ := blF_spec hm hb hD
  have c14 : ∀ {p}, isCor P m p → p < 14 := fun h => by have := h.1; omega
  have powb : ∀ v k : Nat, (2 ^ v).testBit k = true ↔ v = k := fun v k => by rw [Nat.testBit_two_pow, decide_eq_true_eq]
  have powlt : ∀ {v}, v < 14 → 2 ^ v < 16384 := fun h => bits_pow h
  -- two corners at least
  obtain ⟨a, b, c, x, ha, hb', hc, hx, hne⟩ := cor_base hm hD hs
  -- corners
  have dV : N ∣ 24 * nV P m := by
    have e : nV P m = ct (fun S => ∃ v, isCor P m v ∧ S = 2 ^ v) 16384 := by
      refine ct_bij (fun v S => S = 2 ^ v) (fun v _ h => ⟨2 ^ v, powlt (c14 h), ⟨v, h, rfl⟩, rfl⟩) (fun S _ h => ?_) (fun v w S _ _ _ _ _ p q => ?_) (fun v S T _ _ _ _ _ p q => p.trans q.symm)
      · obtain ⟨v, hv, e⟩ := h; exact ⟨v, c14 hv, hv, e⟩
      · have := (powb v w).1 (by rw [← p, q]; exact (powb w w).2 rfl); exact this
    rw [e]
    refine out_div hm hD hs hL _ (fun S h => ?_) (fun S i h hi => ?_)
    · obtain ⟨v, hv, rfl⟩ := h
      obtain ⟨_, cc, hcc⟩ := id hv
      have other : ∃ w, isCor P m w ∧ w ≠ v := by
        by_cases e : a = v
        · refine ⟨b, hb', fun e2 => hne ?_⟩
          rw [e, e2, bxs_fun]
          have : ncr P v v c = vO := by simp [ncr, vcr, vsub, vO]
          rw [this]; simp [dot, vO]
        · exact ⟨a, ha, e⟩
      obtain ⟨w, hw, wv⟩ := other
      refine ⟨fun p hp => by rw [← (powb v p).1 hp]; exact hv, ⟨v, (powb v v).2 rfl⟩, ⟨w, hw, ?_⟩, cc, dot cc (P v), fun p hp => ⟨fun h => by rw [(powb v p).1 h], fun h => hcc p hp.1 (fun e => ?_)⟩⟩
      · cases t : (2 ^ v).testBit w
        · rfl
        · exact absurd ((powb v w).1 t).symm wv
      · rw [e, (powb v v).2 rfl] at h; cases h
    · obtain ⟨v, hv, rfl⟩ := h
      refine ⟨im i v, (L1 i hi).1 v hv, bits_eq (fun q => ?_)⟩
      rw [imS_spec hm (L1 i hi), powb]
      constructor
      · rintro ⟨p, hp, h1, rfl⟩; rw [(powb v p).1 h1]
      · rintro rfl; exact ⟨v, hv, (powb v v).2 rfl, rfl⟩
  -- edges
  have twob : ∀ p q k : Nat, (2 ^ p ||| 2 ^ q).testBit k = true ↔ p = k ∨ q = k := fun p q k => by rw [tb_or, Bool.or_eq_true, powb, decide_eq_true_eq]
  have dE : N ∣ 24 * nE P m := by
    have e : nE P m = ct (fun S => ∃ p q, isEd P m p q ∧ S = 2 ^ p ||| 2 ^ q) 16384 := by
      simp only [nE]
      rw [← ct_codes (fun p q => isEd P m p q ∧ q < p) 14 (by omega)]
      refine ct_bij (fun t S => S = 2 ^ (t / 14) ||| 2 ^ (t % 14)) (fun t _ h => ⟨2 ^ (t / 14) ||| 2 ^ (t % 14), bits_or (powlt (c14 h.1.2.1)) (powlt (c14 h.1.2.2.1)), ⟨_, _, h.1, rfl⟩, rfl⟩) (fun S _ h => ?_) (fun t u S ht hu pt pu _ p q => ?_) (fun t S T _ _ _ _ _ p q => p.trans q.symm)
      · obtain ⟨p, q, hpq, rfl⟩ := h
        have p14 := c14 hpq.2.1
        have q14 := c14 hpq.2.2.1
        by_cases c : q < p
        · refine ⟨14 * p + q, by omega, ?_, ?_⟩
          · rw [show (14 * p + q) / 14 = p by omega, show (14 * p + q) % 14 = q by omega]; exact ⟨hpq, c⟩
          · rw [show (14 * p + q) / 14 = p by omega, show (14 * p + q) % 14 = q by omega]
        · have := hpq.1
          refine ⟨14 * q + p, by omega, ?_, ?_⟩
          · rw [show (14 * q + p) / 14 = q by omega, show (14 * q + p) % 14 = p by omega]; exact ⟨isEd_symm hpq, by omega⟩
          · rw [show (14 * q + p) / 14 = q by omega, show (14 * q + p) % 14 = p by omega, Nat.or_comm]
      · have e1 := (twob (u / 14) (u % 14) (t / 14)).1 (by rw [← q, p]; exact (twob _ _ _).2 (Or.inl rfl))
        have e2 := (twob (u / 14) (u % 14) (t % 14)).1 (by rw [← q, p]; exact (twob _ _ _).2 (Or.inr rfl))
        have o1 := pt.2; have o2 := pu.2
        omega
    rw [e]
    refine out_div hm hD hs hL _ (fun S h => ?_) (fun S i h hi => ?_)
    · obtain ⟨p, q, hpq, rfl⟩ := h
      obtain ⟨hne', cp, cq, n1, l1, n2, l2, h1, h2, hn, p1, q1, p2, q2⟩ := id hpq
      refine ⟨fun r hr => by rcases (twob p q r).1 hr with rfl | rfl <;> assumption, ⟨p, (twob p q p).2 (Or.inl rfl)⟩, ?_, vlc 1 n1 1 n2, l1 + l2, fun r hr => ⟨fun h => ?_, fun h => ?_⟩⟩
      · -- a third corner
        obtain ⟨R, L, hR⟩ := F_rnd hm hD h1
        obtain ⟨⟨l3, _⟩, ex, inj, _⟩ := hR
        have : ∃ k, k < 3 ∧ R k ≠ p ∧ R k ≠ q := by
          have i01 := fun e => inj 0 1 (by omega) (by omega) e
          have i02 := fun e => inj 0 2 (by omega) (by omega) e
          have i12 := fun e => inj 1 2 (by omega) (by omega) e
          by_cases k0 : R 0 ≠ p ∧ R 0 ≠ q
          · exact ⟨0, by omega, k0⟩
          · by_cases k1 : R 1 ≠ p ∧ R 1 ≠ q
            · exact ⟨1, by omega, k1⟩
            · exact ⟨2, by omega, by omega, by omega⟩
        obtain ⟨k, k3, kp, kq⟩ := this
        refine ⟨R k, cor_of hD h1 (ex k (by omega)), ?_⟩
        cases t : (2 ^ p ||| 2 ^ q).testBit (R k)
        · rfl
        · rcases (twob p q _).1 t with u | u
          · exact absurd u.symm kp
          · exact absurd u.symm kq
      · rw [dot_lc]
        rcases (twob p q r).1 h with rfl | rfl
        · rw [p1.2, p2.2]; omega
        · rw [q1.2, q2.2]; omega
      · rw [dot_lc]
        have s1 := h1.2.1 r hr.1
        have s2 := h2.2.1 r hr.1
        apply Classical.byContradiction
        intro hlt
        -- r in both faces: on the edge's line
        have r1 : fA P m n1 l1 r := ⟨hr.1, by omega⟩
        have r2 : fA P m n2 l2 r := ⟨hr.1, by omega⟩
        have rp : r ≠ p := by rintro rfl; rw [(twob r q r).2 (Or.inl rfl)] at h; cases h
        have rq : r ≠ q := by rintro rfl; rw [(twob p r r).2 (Or.inr rfl)] at h; cases h
        by_cases hz : ncr P p q r = vO
        · -- one of the three lies between
          have nn := gcd3_ne h1.1
          have z0 := (F_nc h1 p1 q1 r1).2 hz
          have ns : ∀ {i j}, fA P m n1 l1 i → fA P m n1 l1 j → i ≠ j → ¬ sam P n1 i j := fun hi' hj' hij e => hij (F_sam hD h1 hi' hj' e)
          rcases ed_two hD hne' cp cq h1 h2 hn p1 q1 p2 q2 with ⟨u, _, _⟩ | ⟨u, _, _⟩
          · have := nxt_strict nn (expo_of h1 p1 cp) (expo_of h1 r1 hr) u (ns p1 r1 (fun e => rp e.symm)) (ns r1 q1 rq)
            omega
          · have := nxt_strict nn (expo_of h1 q1 cq) (expo_of h1 r1 hr) u (ns q1 r1 (fun e => rq e.symm)) (ns r1 p1 rp)
            rw [swg_sw] at this; omega
        · exact hn (F_uni h1 h2 hz p1.2 q1.2 r1.2 p2.2 q2.2 r2.2).1
    · obtain ⟨p, q, hpq, rfl⟩ := h
      refine ⟨im i p, im i q, sy_edge hm hD (L1 i hi) hpq, bits_eq (fun r => ?_)⟩
      rw [imS_spec hm (L1 i hi), twob]
      constructor
      · rintro ⟨t, ht, h1, rfl⟩
        rcases (twob p q t).1 h1 with rfl | rfl
        · exact Or.inl rfl
        · exact Or.inr rfl
      · rintro (rfl | rfl)
        · exact ⟨p, hpq.2.1, (twob p q p).2 (Or.inl rfl), rfl⟩
        · exact ⟨q, hpq.2.2.1, (twob p q q).2 (Or.inr rfl), rfl⟩
  -- faces
  have mset : ∀ n l, ∃ S, S < 16384 ∧ ∀ k, S.testBit k = true ↔ (fA P m n l k ∧ isCor P m k) := by
    intro n l
    refine ⟨bts (fun k => @decide (fA P m n l k ∧ isCor P m k) (Classical.propDecidable _)) 14, bts_lt2 _ 14, fun k => ?_⟩
    rw [bts_spec, @decide_eq_true_eq _ (Classical.propDecidable _)]
    exact ⟨fun h => h.2, fun h => ⟨c14 h.2, h⟩⟩
  have fuq : ∀ n l n' l', isF P m n l → isF P m n' l' → (∀ k, (fA P m n l k ∧ isCor P m k) → fA P m n' l' k) → n = n' ∧ l = l' := by
    intro n l n' l' h h' hk
    obtain ⟨R, L, hR⟩ := F_rnd hm hD h
    obtain ⟨⟨l3, _⟩, ex, _⟩ := id hR
    have on := fun k hk' => hk (R k) ⟨(ex k hk').1, cor_of hD h (ex k hk')⟩
    exact F_uni h h' (rnd_012 hD h hR) (ex 0 (by omega)).1.2 (ex 1 (by omega)).1.2 (ex 2 (by omega)).1.2 (on 0 (by omega)).2 (on 1 (by omega)).2 (on 2 (by omega)).2
  have dF : N ∣ 24 * (blF P m).1 := by
    have e : (blF P m).1 = ct (fun S => ∃ n l, isF P m n l ∧ ∀ k, S.testBit k = true ↔ (fA P m n l k ∧ isCor P m k)) 16384 := by
      have := ct_bij (p := fun _ => True) (q := fun S => ∃ n l, isF P m n l ∧ ∀ k, S.testBit k = true ↔ (fA P m n l k ∧ isCor P m k)) (N := (blF P m).1) (M := 16384)
        (fun i S => ∀ k, S.testBit k = true ↔ (fA P m ((blF P m).2 i).1 ((blF P m).2 i).2.1 k ∧ isCor P m k))
        (fun i hi _ => by
          obtain ⟨S, s1, s2⟩ := mset ((blF P m).2 i).1 ((blF P m).2 i).2.1
          exact ⟨S, s1, ⟨_, _, (c2 i hi).1, s2⟩, s2⟩)
        (fun S _ h => by
          obtain ⟨n, l, hF, hS⟩ := h
          obtain ⟨i, i1, i2, i3⟩ := call n l hF
          exact ⟨i, i1, trivial, by rw [i2, i3]; exact hS⟩)
        (fun i j S hi hj _ _ _ p q => c3 i j hi hj (fuq _ _ _ _ (c2 i hi).1 (c2 j hj).1 (fun k hk => ((q k).1 ((p k).2 hk)).1)).1)
        (fun i S T _ _ _ _ _ p q => bits_eq (fun k => (p k).trans (q k).symm))
      rw [ct_all] at this; exact this
    rw [e]
    refine out_div hm hD hs hL _ (fun S h => ?_) (fun S i h hi => ?_)
    · obtain ⟨n, l, hF, hS⟩ := h
      obtain ⟨R, L, hR⟩ := F_rnd hm hD hF
      obtain ⟨⟨l3, _⟩, ex, _⟩ := hR
      refine ⟨fun p hp => ((hS p).1 hp).2, ⟨R 0, (hS _).2 ⟨(ex 0 (by omega)).1, cor_of hD hF (ex 0 (by omega))⟩⟩, ?_, n, l, fun p hp => ⟨fun h => ((hS p).1 h).1.2, fun h => ?_⟩⟩
      · obtain ⟨k, k1, k2⟩ := hF.2.2.1
        obtain ⟨w, hw, w2⟩ := max_cor hm hD hs (vneg n)
        have t := w2 k k1
        rw [dot_neg, dot_neg] at t
        refine ⟨w, hw, ?_⟩
        cases u : S.testBit w
        · rfl
        · have := ((hS w).1 u).1.2; omega
      · have := hF.2.1 p hp.1
        rcases Int.lt_or_eq_of_le this with u | u
        · exact u
        · rw [(hS p).2 ⟨⟨hp.1, u⟩, hp⟩] at h; cases h
    · obtain ⟨n, l, hF, hS⟩ := h
      obtain ⟨n', l', F', h'⟩ := sy_face hm hD (L1 i hi) hF
      refine ⟨n', l', F', fun q => ?_⟩
      rw [imS_spec hm (L1 i hi)]
      constructor
      · rintro ⟨p, hp, h1, rfl⟩
        exact ⟨(h' p hp).2 ((hS p).1 h1).1, (L1 i hi).1 p hp⟩
      · rintro ⟨h1, h2⟩
        obtain ⟨p, hp, rfl⟩ := sy_surj hD (L1 i hi) h2
        exact ⟨p, hp, (hS p).2 ⟨(h' p hp).1 h1, hp⟩, rfl⟩
  have eu := euler hm hb hD hs
  have d1 : N ∣ 24 * nV P m + 24 * (blF P m).1 := Nat.dvd_add dV dF
  have d2 : N ∣ 48 := by
    have : 24 * nV P m + 24 * (blF P m).1 = 24 * nE P m + 48 := by omega
    rw [this] at d1
    exact (Nat.dvd_add_iff_right dE).2 d1
  exact Nat.le_of_dvd (by omega) d2
