theorem nrm_ncr (P : Nat → V3) (p q r : Nat) : nrm P p q r = ncr P p q r := by
  simp only [nrm, swg, ncr, dot]
  refine v3ext ?_ ?_ ?_ <;> simp
theorem gcd3_zero {u : V3} : gcd3 u = 0 ↔ u = vO := by
  constructor
  · intro h
    apply Classical.byContradiction
    intro e
    have := (prim_mul u e).1; omega
  · rintro rfl; rfl
theorem dot_neg (n u : V3) : dot (vneg n) u = - dot n u := by simp only [dot, vneg]; grind
theorem gcd3_neg (u : V3) : gcd3 (vneg u) = gcd3 u := by simp [gcd3, vneg]
theorem sd_bits : ∀ s, s < 4 → ((s ||| 1).testBit 0 = true ∧ (s ||| 1).testBit 1 = s.testBit 1) ∧ ((s ||| 2).testBit 1 = true ∧ (s ||| 2).testBit 0 = s.testBit 0) := by decide
/-- what the sides say -/
theorem sdR_sp (P : Nat → V3) (d : V3) (lv : Int) : ∀ (k i s w : Nat), s < 4 →
    (((sdR P d lv k i s w).1.testBit 0 = true → s.testBit 0 = true ∨ ∃ j, i ≤ j ∧ j < i + k ∧ dot d (P j) < lv) ∧ ((sdR P d lv k i s w).1.testBit 1 = true → s.testBit 1 = true ∨ ∃ j, i ≤ j ∧ j < i + k ∧ lv < dot d (P j))) ∧
    ((sdR P d lv k i s w).1 ≠ 3 → ((s.testBit 0 = true ∨ ∃ j, i ≤ j ∧ j < i + k ∧ dot d (P j) < lv) → (sdR P d lv k i s w).1.testBit 0 = true) ∧ ((s.testBit 1 = true ∨ ∃ j, i ≤ j ∧ j < i + k ∧ lv < dot d (P j)) → (sdR P d lv k i s w).1.testBit 1 = true))
  | 0, i, s, w, hs => by
    simp only [sdR]
    refine ⟨⟨Or.inl, Or.inl⟩, fun _ => ⟨?_, ?_⟩⟩
    · rintro (h | ⟨j, a, b, _⟩)
      · exact h
      · omega
    · rintro (h | ⟨j, a, b, _⟩)
      · exact h
      · omega
  | k + 1, i, s, w, hs => by
    simp only [sdR]
    split
    · rename_i h3
      subst h3
      refine ⟨⟨fun h => Or.inl h, fun h => Or.inl h⟩, fun h => absurd rfl h⟩
    split
    · rename_i h3 h0
      obtain ⟨⟨a1, a2⟩, b⟩ := sdR_sp P d lv k (i + 1) s (w ||| 2 ^ i) hs
      refine ⟨⟨fun h => ?_, fun h => ?_⟩, fun h => ⟨fun h' => (b h).1 ?_, fun h' => (b h).2 ?_⟩⟩
      · rcases a1 h with h | ⟨j, x, y, z⟩
        · exact Or.inl h
        · exact Or.inr ⟨j, by omega, by omega, z⟩
      · rcases a2 h with h | ⟨j, x, y, z⟩
        · exact Or.inl h
        · exact Or.inr ⟨j, by omega, by omega, z⟩
      · rcases h' with h | ⟨j, x, y, z⟩
        · exact Or.inl h
        · by_cases e : j = i
          · subst e; omega
          · exact Or.inr ⟨j, by omega, by omega, z⟩
      · rcases h' with h | ⟨j, x, y, z⟩
        · exact Or.inl h
        · by_cases e : j = i
          · subst e; omega
          · exact Or.inr ⟨j, by omega, by omega, z⟩
    · rename_i h3 h0
      obtain ⟨⟨s1, s2⟩, s3, s4⟩ := sd_bits s hs
      by_cases hn : dot d (P i) - lv < 0
      · rw [if_pos hn]
        obtain ⟨⟨a1, a2⟩, b⟩ := sdR_sp P d lv k (i + 1) (s ||| 1) w (or_lt4 s hs).1
        rw [s1, s2] at *
        refine ⟨⟨fun h => Or.inr ⟨i, by omega, by omega, by omega⟩, fun h => ?_⟩, fun h => ⟨fun h' => (b h).1 (Or.inl rfl), fun h' => (b h).2 ?_⟩⟩
        · rcases a2 h with h | ⟨j, x, y, z⟩
          · exact Or.inl h
          · exact Or.inr ⟨j, by omega, by omega, z⟩
        · rcases h' with h | ⟨j, x, y, z⟩
          · exact Or.inl h
          · by_cases e : j = i
            · subst e; omega
            · exact Or.inr ⟨j, by omega, by omega, z⟩
      · rw [if_neg hn]
        obtain ⟨⟨a1, a2⟩, b⟩ := sdR_sp P d lv k (i + 1) (s ||| 2) w (or_lt4 s hs).2
        rw [s3, s4] at *
        refine ⟨⟨fun h => ?_, fun h => Or.inr ⟨i, by omega, by omega, by omega⟩⟩, fun h => ⟨fun h' => (b h).1 ?_, fun h' => (b h).2 (Or.inl rfl)⟩⟩
        · rcases a1 h with h | ⟨j, x, y, z⟩
          · exact Or.inl h
          · exact Or.inr ⟨j, by omega, by omega, z⟩
        · rcases h' with h | ⟨j, x, y, z⟩
          · exact Or.inl h
          · by_cases e : j = i
            · subst e; omega
            · exact Or.inr ⟨j, by omega, by omega, z⟩
theorem four_bits : ∀ s, s < 4 → (s = 1 ↔ (s.testBit 0 = true ∧ s.testBit 1 = false)) ∧ (s = 2 ↔ (s.testBit 0 = false ∧ s.testBit 1 = true)) ∧ (s = 3 ↔ (s.testBit 0 = true ∧ s.testBit 1 = true)) := by decide
/-- the class finds a face in these three's plane -/
theorem fc_face {P : Nat → V3} {m p q r : Nat} (hp : p < m) (hq : q < m) (hr : r < m) (h : gcd3 (nrm P p q r) ≠ 0 ∧ ((fcS P m p q r).1 = 1 ∨ (fcS P m p q r).1 = 2)) :
    isF P m (fcD P m p q r) (fcL P m p q r) ∧ ncr P p q r ≠ vO ∧ (dot (fcD P m p q r) (P p) = fcL P m p q r ∧ dot (fcD P m p q r) (P q) = fcL P m p q r ∧ dot (fcD P m p q r) (P r) = fcL P m p q r) ∧ ∀ k, (fcS P m p q r).2.testBit k = true ↔ k < m ∧ dot (fcD P m p q r) (P k) = fcL P m p q r := by
  obtain ⟨hg, hs⟩ := h
  have hN : ncr P p q r ≠ vO := fun e => hg (by rw [nrm_ncr]; exact gcd3_zero.2 e)
  have hN' : nrm P p q r ≠ vO := by rw [nrm_ncr]; exact hN
  obtain ⟨g0, _, g1⟩ := prim_mul _ hN'
  obtain ⟨⟨a1, a2⟩, b⟩ := sdR_sp P (prim (nrm P p q r)) (dot (prim (nrm P p q r)) (P p)) m 0 0 0 (by omega)
  have se := sdR_seen P (prim (nrm P p q r)) (dot (prim (nrm P p q r)) (P p)) m 0 0 0 (by omega)
  have l4 := sdR_lt P (prim (nrm P p q r)) (dot (prim (nrm P p q r)) (P p)) m 0 0 0 (by omega)
  have fs : sdR P (prim (nrm P p q r)) (dot (prim (nrm P p q r)) (P p)) m 0 0 0 = fcS P m p q r := rfl
  rw [fs] at a1 a2 b se l4
  have n3 : (fcS P m p q r).1 ≠ 3 := by omega
  have b := b n3
  have se := se n3
  obtain ⟨f1, f2, _⟩ := four_bits _ l4
  have on : ∀ w, dot (nrm P p q r) (P w) = dot (nrm P p q r) (P p) → dot (prim (nrm P p q r)) (P w) = dot (prim (nrm P p q r)) (P p) := fun w e => (prim_eq0 hN').2 e
  have eq : dot (prim (nrm P p q r)) (P q) = dot (prim (nrm P p q r)) (P p) := on q (by
    rw [nrm_ncr]
    have := dot_vcr_l (vsub (P q) (P p)) (vsub (P r) (P p))
    rw [dot_comm, dot_sub] at this
    have e : dot (ncr P p q r) (P q) - dot (ncr P p q r) (P p) = 0 := this
    omega)
  have er : dot (prim (nrm P p q r)) (P r) = dot (prim (nrm P p q r)) (P p) := on r (by
    rw [nrm_ncr]
    have := dot_vcr_r (vsub (P q) (P p)) (vsub (P r) (P p))
    rw [dot_comm, dot_sub] at this
    have e : dot (ncr P p q r) (P r) - dot (ncr P p q r) (P p) = 0 := this
    omega)
  have hseen : ∀ k, (fcS P m p q r).2.testBit k = true ↔ k < m ∧ dot (prim (nrm P p q r)) (P k) = dot (prim (nrm P p q r)) (P p) := by
    intro k
    rw [se k]
    simp only [Nat.zero_testBit, Bool.false_or, decide_eq_true_eq, Nat.zero_le, true_and, Nat.zero_add]
    constructor
    · rintro ⟨x, y⟩; exact ⟨x, by omega⟩
    · rintro ⟨x, y⟩; exact ⟨x, by omega⟩
  rcases hs with hs | hs
  · have e2 : (fcS P m p q r).1 ≠ 2 := by omega
    have t := f1.1 hs
    have ed : fcD P m p q r = prim (nrm P p q r) := by simp only [fcD]; rw [if_neg e2]
    have el : fcL P m p q r = dot (prim (nrm P p q r)) (P p) := by simp only [fcL]; rw [if_neg e2]
    rw [ed, el]
    refine ⟨⟨g1, fun k hk => ?_, ?_, p, q, r, hp, hq, hr, rfl, eq, er, hN⟩, hN, ⟨rfl, eq, er⟩, hseen⟩
    · rcases Int.lt_or_le (dot (prim (nrm P p q r)) (P p)) (dot (prim (nrm P p q r)) (P k)) with u | u
      · have := b.2 (Or.inr ⟨k, by omega, by omega, u⟩); rw [t.2] at this; cases this
      · exact u
    · rcases a1 t.1 with u | ⟨j, x, y, z⟩
      · simp at u
      · exact ⟨j, by omega, z⟩
  · have t := f2.1 hs
    have ed : fcD P m p q r = vneg (prim (nrm P p q r)) := by simp only [fcD]; rw [if_pos hs]
    have el : fcL P m p q r = - dot (prim (nrm P p q r)) (P p) := by simp only [fcL]; rw [if_pos hs]
    rw [ed, el]
    simp only [dot_neg]
    refine ⟨⟨by rw [gcd3_neg]; exact g1, fun k hk => ?_, ?_, p, q, r, hp, hq, hr, by rw [dot_neg], by rw [dot_neg]; omega, by rw [dot_neg]; omega, hN⟩, hN, ⟨trivial, by omega, by omega⟩, fun k => ?_⟩
    · rw [dot_neg]
      rcases Int.lt_or_le (dot (prim (nrm P p q r)) (P k)) (dot (prim (nrm P p q r)) (P p)) with u | u
      · have := b.1 (Or.inr ⟨k, by omega, by omega, u⟩); rw [t.1] at this; cases this
      · omega
    · rcases a2 t.2 with u | ⟨j, x, y, z⟩
      · simp at u
      · refine ⟨j, by omega, ?_⟩
        rw [dot_neg]; omega
    · rw [hseen]
      constructor
      · rintro ⟨x, y⟩; exact ⟨x, by omega⟩
      · rintro ⟨x, y⟩; exact ⟨x, by omega⟩
/-- and finds each -/
theorem fc_all {P : Nat → V3} {m p q r : Nat} (hp : p < m) (hq : q < m) (hr : r < m) {n : V3} {l : Int} (h : isF P m n l) (hN : ncr P p q r ≠ vO) (e1 : dot n (P p) = l) (e2 : dot n (P q) = l) (e3 : dot n (P r) = l) : gcd3 (nrm P p q r) ≠ 0 ∧ ((fcS P m p q r).1 = 1 ∨ (fcS P m p q r).1 = 2) := by
  have hN' : nrm P p q r ≠ vO := by rw [nrm_ncr]; exact hN
  refine ⟨fun e => hN' (gcd3_zero.1 e), ?_⟩
  obtain ⟨g0, _, g1⟩ := prim_mul _ hN'
  obtain ⟨⟨a1, a2⟩, b⟩ := sdR_sp P (prim (nrm P p q r)) (dot (prim (nrm P p q r)) (P p)) m 0 0 0 (by omega)
  have l4 := sdR_lt P (prim (nrm P p q r)) (dot (prim (nrm P p q r)) (P p)) m 0 0 0 (by omega)
  have fs : sdR P (prim (nrm P p q r)) (dot (prim (nrm P p q r)) (P p)) m 0 0 0 = fcS P m p q r := rfl
  rw [fs] at a1 a2 b l4
  obtain ⟨f1, f2, f3⟩ := four_bits _ l4
  have pa := perp_par (n := n) (a := vsub (P q) (P p)) (b := vsub (P r) (P p)) (by rw [dot_sub]; omega) (by rw [dot_sub]; omega)
  -- n and the primitive normal are along one line
  have pn : ∀ u, dot (nrm P p q r) u = (gcd3 (nrm P p q r) : Int) * dot (prim (nrm P p q r)) u := fun u => dot_prim _ u hN'
  have pp : vcr n (prim (nrm P p q r)) = vO := by
    have q1 : vcr n (nrm P p q r) = vO := by rw [nrm_ncr]; exact pa
    obtain ⟨_, b, _⟩ := prim_mul _ hN'
    rw [b, vO_iff] at q1
    rw [vO_iff]
    simp only [vcr] at q1 ⊢
    have k : ∀ t : Int, (gcd3 (nrm P p q r) : Int) * t = 0 → t = 0 := fun t ht => (Int.mul_eq_zero.1 ht).resolve_left (by omega)
    obtain ⟨q1, q2, q3⟩ := q1
    refine ⟨k _ ?_, k _ ?_, k _ ?_⟩ <;> grind
  have pe : n = prim (nrm P p q r) ∨ n = vneg (prim (nrm P p q r)) := by
    by_cases c : 0 ≤ dot n (prim (nrm P p q r))
    · exact Or.inl (par_eq pp h.1 g1 c)
    · refine Or.inr (par_eq ?_ h.1 (by rw [gcd3_neg]; exact g1) ?_)
      · rw [vO_iff] at pp ⊢; simp only [vcr, vneg] at pp ⊢; obtain ⟨a, b, c⟩ := pp
        refine ⟨by grind, by grind, by grind⟩
      · rw [dot_comm, dot_neg, dot_comm]; omega
  obtain ⟨_, hsup, ⟨k, k1, k2⟩, _⟩ := h
  rcases pe with pe | pe
  · rw [← pe] at a1 a2 b
    have x1 : (fcS P m p q r).1.testBit 1 ≠ true := by
      intro e
      rcases a2 e with u | ⟨j, x, y, z⟩
      · simp at u
      · have := hsup j (by omega); omega
    have n3 : (fcS P m p q r).1 ≠ 3 := fun e => x1 (f3.1 e).2
    left
    exact f1.2 ⟨(b n3).1 (Or.inr ⟨k, by omega, by omega, by omega⟩), by simpa using x1⟩
  · have dn : ∀ u, dot (prim (nrm P p q r)) u = - dot n u := by
      intro u; rw [pe, dot_neg]; omega
    rw [dn] at a1 a2 b
    have x1 : (fcS P m p q r).1.testBit 0 ≠ true := by
      intro e
      rcases a1 e with u | ⟨j, x, y, z⟩
      · simp at u
      · rw [dn] at z
        have := hsup j (by omega); omega
    have n3 : (fcS P m p q r).1 ≠ 3 := fun e => x1 (f3.1 e).1
    right
    exact f2.2 ⟨by simpa using x1, (b n3).2 (Or.inr ⟨k, by omega, by omega, by rw [dn]; omega⟩)⟩
