/-- reached in so many steps -/
def rch (P : Nat → V3) (m a : Nat) : Nat → Nat → Prop
  | 0, x => x = a
  | k + 1, x => rch P m a k x ∨ ∃ y, rch P m a k y ∧ isEd P m y x
theorem rch_mono {P : Nat → V3} {m a x : Nat} {j k : Nat} (h : j ≤ k) (hr : rch P m a j x) : rch P m a k x := by
  induction k with
  | zero => rw [show j = 0 by omega] at hr; exact hr
  | succ k ih =>
    by_cases e : j = k + 1
    · subst e; exact hr
    · exact Or.inl (ih (by omega))
theorem rch_cons {P : Nat → V3} {m a b : Nat} (h : isEd P m a b) : ∀ (k x : Nat), rch P m b k x → rch P m a (k + 1) x
  | 0, x, hr => by
    have e : x = b := hr
    subst e
    exact Or.inr ⟨a, rfl, h⟩
  | k + 1, x, hr => by
    rcases hr with hr | ⟨y, hy, he⟩
    · exact Or.inl (rch_cons h k x hr)
    · exact Or.inr ⟨y, rch_cons h k y hy, he⟩
/-- any corner is reached from any, within 13 steps -/
theorem rch_all {P : Nat → V3} {m : Nat} (hm : m ≤ 14) (hD : Dis P m) (hs : Sol P m) {a b : Nat} (ha : isCor P m a) (hb : isCor P m b) : rch P m a 13 b := by
  obtain ⟨hbm, c, hc⟩ := id hb
  -- by how many stand higher
  have key : ∀ N a, isCor P m a → ct (fun k => dot c (P a) < dot c (P k)) m ≤ N → rch P m a N b := by
    intro N
    induction N with
    | zero =>
      intro a ha h
      show b = a
      apply Classical.byContradiction
      intro hne
      have := ct_pos (p := fun k => dot c (P a) < dot c (P k)) (N := m).2 ⟨b, hbm, hc a ha.1 (fun e => hne e.symm)⟩
      omega
    | succ N ih =>
      intro a ha h
      by_cases e : b = a
      · exact rch_mono (j := 0) (by omega) (show b = a from e)
      · obtain ⟨w, w1, w2⟩ := imp_edge hm hD hs ha (c := c) ⟨b, hbm, hc a ha.1 (fun e2 => e e2.symm)⟩
        refine rch_cons w1 N b (ih w w1.2.2.1 ?_)
        have p := ct_pop (q := fun k => dot c (P a) < dot c (P k)) (M := m) (j := w) w1.2.2.1.1 w2
        have q := ct_le (p := fun k => dot c (P w) < dot c (P k)) (q := fun k => dot c (P a) < dot c (P k) ∧ k ≠ w) (N := m) (fun k _ h => ⟨by omega, fun e => by subst e; omega⟩)
        omega
  have p := ct_pop (q := fun _ => True) (M := m) (j := a) ha.1 trivial
  have q := ct_le (p := fun k => dot c (P a) < dot c (P k)) (q := fun k => True ∧ k ≠ a) (N := m) (fun k _ h => ⟨trivial, fun e => by subst e; omega⟩)
  rw [ct_all] at p
  exact key 13 a ha (by omega)
theorem baR_spec (b : Nat → Nat) (w x : Nat) : ∀ (k i v : Nat), (baR b w k i v).testBit x = true ↔ v.testBit x = true ∨ ∃ j, i ≤ j ∧ j < i + k ∧ w.testBit j = true ∧ (b j).testBit x = true
  | 0, i, v => by
    simp only [baR]
    constructor
    · exact Or.inl
    · rintro (h | ⟨j, a, b, _⟩)
      · exact h
      · omega
  | k + 1, i, v => by
    simp only [baR]
    rw [baR_spec b w x k (i + 1)]
    by_cases h : w.testBit i = true
    · rw [if_pos h, Nat.testBit_or, Bool.or_eq_true]
      constructor
      · rintro ((h1 | h1) | ⟨j, a, b, c⟩)
        · exact Or.inl h1
        · exact Or.inr ⟨i, by omega, by omega, h, h1⟩
        · exact Or.inr ⟨j, by omega, by omega, c⟩
      · rintro (h1 | ⟨j, a, b, c⟩)
        · exact Or.inl (Or.inl h1)
        · by_cases e : j = i
          · subst e; exact Or.inl (Or.inr c.2)
          · exact Or.inr ⟨j, by omega, by omega, c⟩
    · rw [if_neg h]
      constructor
      · rintro (h1 | ⟨j, a, b, c⟩)
        · exact Or.inl h1
        · exact Or.inr ⟨j, by omega, by omega, c⟩
      · rintro (h1 | ⟨j, a, b, c⟩)
        · exact Or.inl h1
        · by_cases e : j = i
          · subst e; exact absurd c.1 h
          · exact Or.inr ⟨j, by omega, by omega, c⟩
theorem rch_lt {P : Nat → V3} {m a : Nat} (ha : a < m) : ∀ (k x : Nat), rch P m a k x → x < m
  | 0, x, h => by rw [show x = a from h]; exact ha
  | k + 1, x, h => by
    rcases h with h | ⟨y, _, he⟩
    · exact rch_lt ha k x h
    · exact he.2.2.1.1
/-- the class's way is the shortest -/
theorem spR_spec {P : Nat → V3} {m a to : Nat} (hm : m ≤ 14) (ha : a < m) {b : Nat → Nat} (hb : ∀ p q, p < 14 → ((b p).testBit q = true ↔ isEd P m p q)) : ∀ (k s w : Nat), (∀ x, w.testBit x = true ↔ rch P m a s x) → (∃ t, s ≤ t ∧ t < s + k ∧ rch P m a t to) → ∃ t : Nat, s ≤ t ∧ rch P m a t to ∧ (∀ u, s ≤ u → u < t → ¬ rch P m a u to) ∧ spR b to k s w = (t : Int)
  | 0, s, w, _, h => by obtain ⟨t, a, b, _⟩ := h; omega
  | k + 1, s, w, hw, h => by
    simp only [spR]
    split
    · rename_i h1
      exact ⟨s, by omega, (hw to).1 h1, fun u a b => by omega, rfl⟩
    · rename_i h1
      have hn : ¬ rch P m a s to := fun e => h1 ((hw to).2 e)
      obtain ⟨t, t1, t2, t3, t4⟩ := spR_spec hm ha hb k (s + 1) (w ||| baR b w 14 0 0) (fun x => by
        rw [Nat.testBit_or, Bool.or_eq_true, baR_spec, hw]
        constructor
        · rintro (h | h | ⟨j, _, j2, j3, j4⟩)
          · exact Or.inl h
          · simp at h
          · exact Or.inr ⟨j, (hw j).1 j3, (hb j x (by omega)).1 j4⟩
        · rintro (h | ⟨y, y1, y2⟩)
          · exact Or.inl h
          · have := rch_lt ha s y y1
            exact Or.inr (Or.inr ⟨y, by omega, by omega, (hw y).2 y1, (hb y x (by omega)).2 y2⟩)) (by
        obtain ⟨t, a, b, c⟩ := h
        refine ⟨t, ?_, by omega, c⟩
        rcases Nat.lt_or_ge s t with u | u
        · omega
        · rw [show t = s by omega] at c; exact absurd c hn)
      refine ⟨t, by omega, t2, fun u h1 h2 => ?_, t4⟩
      by_cases e : u = s
      · subst e; exact hn
      · exact t3 u (by omega) h2
/-- each direction's highest is met by a corner -/
theorem max_cor {P : Nat → V3} {m : Nat} (hm : m ≤ 14) (hD : Dis P m) (hs : Sol P m) (c : V3) : ∃ v, isCor P m v ∧ ∀ k, k < m → dot c (P k) ≤ dot c (P v) := by
  have hm0 : 0 < m := by obtain ⟨p, _, _, _, hp, _⟩ := hs; omega
  -- some corner
  obtain ⟨w, w1, w2⟩ := ex_max (fun k => dot (1, 0, 0) (P k)) m hm0
  obtain ⟨n, l, hF, _⟩ := F_ex hs (n := (1, 0, 0)) (by simp [vO]) w1 w2
  obtain ⟨R, L, hR⟩ := F_rnd hm hD hF
  have c0 : isCor P m (R 0) := cor_of hD hF (hR.2.1 0 (by have := hR.1.1; omega))
  have key : ∀ N a, isCor P m a → ct (fun k => dot c (P a) < dot c (P k)) m ≤ N → ∃ v, isCor P m v ∧ ∀ k, k < m → dot c (P k) ≤ dot c (P v) := by
    intro N
    induction N with
    | zero =>
      intro a ha h
      refine ⟨a, ha, fun k hk => ?_⟩
      rcases Int.lt_or_le (dot c (P a)) (dot c (P k)) with u | u
      · have := ct_pos (p := fun k => dot c (P a) < dot c (P k)) (N := m).2 ⟨k, hk, u⟩; omega
      · exact u
    | succ N ih =>
      intro a ha h
      by_cases e : ∃ k, k < m ∧ dot c (P a) < dot c (P k)
      · obtain ⟨w, w1, w2⟩ := imp_edge hm hD hs ha e
        refine ih w w1.2.2.1 ?_
        have p := ct_pop (q := fun k => dot c (P a) < dot c (P k)) (M := m) (j := w) w1.2.2.1.1 w2
        have q := ct_le (p := fun k => dot c (P w) < dot c (P k)) (q := fun k => dot c (P a) < dot c (P k) ∧ k ≠ w) (N := m) (fun k _ h => ⟨by omega, fun e => by subst e; omega⟩)
        omega
      · refine ⟨a, ha, fun k hk => ?_⟩
        rcases Int.lt_or_le (dot c (P a)) (dot c (P k)) with u | u
        · exact absurd ⟨k, hk, u⟩ e
        · exact u
  exact key _ _ c0 (Nat.le_refl _)
theorem gtR_spec (P : Nat → V3) (CB : Nat) (d : V3) : ∀ (k i : Nat) (w : Int), w ≤ gtR P CB d k i w ∧ (∀ j, i ≤ j → j < i + k → CB.testBit j = true → dot d (P j) ≤ gtR P CB d k i w) ∧ (gtR P CB d k i w = w ∨ ∃ j, i ≤ j ∧ j < i + k ∧ CB.testBit j = true ∧ gtR P CB d k i w = dot d (P j))
  | 0, i, w => ⟨Int.le_refl _, fun j a b => by omega, Or.inl rfl⟩
  | k + 1, i, w => by
    simp only [gtR]
    obtain ⟨a, b, c⟩ := gtR_spec P CB d k (i + 1) (if CB.testBit i = true then (if dot d (P i) < w then w else dot d (P i)) else w)
    generalize hW : (if CB.testBit i = true then (if dot d (P i) < w then w else dot d (P i)) else w) = W at *
    have h1 : w ≤ W := by subst hW; split <;> (try split) <;> omega
    have h2 : CB.testBit i = true → dot d (P i) ≤ W := by
      intro h; subst hW; rw [if_pos h]; split <;> omega
    have h3 : W = w ∨ (CB.testBit i = true ∧ W = dot d (P i)) := by
      subst hW
      by_cases h : CB.testBit i = true
      · rw [if_pos h]; split
        · exact Or.inl rfl
        · exact Or.inr ⟨h, rfl⟩
      · rw [if_neg h]; exact Or.inl rfl
    refine ⟨by omega, fun j x y z => ?_, ?_⟩
    · by_cases e : j = i
      · subst e; have := h2 z; omega
      · exact b j (by omega) (by omega) z
    · rcases c with c | ⟨j, x, y, z, v⟩
      · rcases h3 with h3 | ⟨h3, h4⟩
        · exact Or.inl (c.trans h3)
        · exact Or.inr ⟨i, by omega, by omega, h3, c.trans h4⟩
      · exact Or.inr ⟨j, by omega, by omega, z, v⟩
theorem caR_spec (P : Nat → V3) (CB : Nat) (d : V3) (z : Int) (x : Nat) : ∀ (k i w : Nat), (caR P CB d z k i w).testBit x = true ↔ w.testBit x = true ∨ (i ≤ x ∧ x < i + k ∧ CB.testBit x = true ∧ dot d (P x) = z)
  | 0, i, w => by
    simp only [caR]
    constructor
    · exact Or.inl
    · rintro (h | ⟨a, b, _⟩)
      · exact h
      · omega
  | k + 1, i, w => by
    simp only [caR]
    rw [caR_spec P CB d z x k (i + 1)]
    by_cases h : CB.testBit i = true ∧ dot d (P i) = z
    · rw [if_pos h, tb_or, Bool.or_eq_true, decide_eq_true_eq]
      constructor
      · rintro ((h1 | h1) | ⟨a, b, c⟩)
        · exact Or.inl h1
        · subst h1; exact Or.inr ⟨by omega, by omega, h⟩
        · exact Or.inr ⟨by omega, by omega, c⟩
      · rintro (h1 | ⟨a, b, c⟩)
        · exact Or.inl (Or.inl h1)
        · by_cases e : i = x
          · exact Or.inl (Or.inr e)
          · exact Or.inr ⟨by omega, by omega, c⟩
    · rw [if_neg h]
      constructor
      · rintro (h1 | ⟨a, b, c⟩)
        · exact Or.inl h1
        · exact Or.inr ⟨by omega, by omega, c⟩
      · rintro (h1 | ⟨a, b, c⟩)
        · exact Or.inl h1
        · by_cases e : i = x
          · subst e; exact absurd c h
          · exact Or.inr ⟨by omega, by omega, c⟩
