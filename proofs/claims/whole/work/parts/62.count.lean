/-- how many below N -/
noncomputable def ct (p : Nat → Prop) : Nat → Nat
  | 0 => 0
  | k + 1 => ct p k + @ite Nat (p k) (Classical.propDecidable _) 1 0
theorem ct_t {p : Nat → Prop} {k : Nat} (h : p k) : ct p (k + 1) = ct p k + 1 := by simp [ct, h]
theorem ct_f {p : Nat → Prop} {k : Nat} (h : ¬ p k) : ct p (k + 1) = ct p k := by simp [ct, h]
theorem ct_congr {p q : Nat → Prop} {N : Nat} (h : ∀ k, k < N → (p k ↔ q k)) : ct p N = ct q N := by
  induction N with
  | zero => rfl
  | succ N ih =>
    have i := ih fun k hk => h k (by omega)
    by_cases e : p N
    · rw [ct_t e, ct_t ((h N (by omega)).1 e), i]
    · rw [ct_f e, ct_f (fun e2 => e ((h N (by omega)).2 e2)), i]
theorem ct_le {p q : Nat → Prop} {N : Nat} (h : ∀ k, k < N → p k → q k) : ct p N ≤ ct q N := by
  induction N with
  | zero => exact Nat.le_refl _
  | succ N ih =>
    have i := ih fun k hk => h k (by omega)
    by_cases e : p N
    · rw [ct_t e, ct_t (h N (by omega) e)]; omega
    · rw [ct_f e]
      by_cases e2 : q N
      · rw [ct_t e2]; omega
      · rw [ct_f e2]; exact i
theorem ct_split (p q : Nat → Prop) (N : Nat) : ct p N = ct (fun k => p k ∧ q k) N + ct (fun k => p k ∧ ¬ q k) N := by
  induction N with
  | zero => rfl
  | succ N ih =>
    by_cases e : p N
    · by_cases e2 : q N
      · rw [ct_t e, ct_t (p := fun k => p k ∧ q k) ⟨e, e2⟩, ct_f (p := fun k => p k ∧ ¬ q k) (fun h => h.2 e2)]; omega
      · rw [ct_t e, ct_f (p := fun k => p k ∧ q k) (fun h => e2 h.2), ct_t (p := fun k => p k ∧ ¬ q k) ⟨e, e2⟩]; omega
    · rw [ct_f e, ct_f (p := fun k => p k ∧ q k) (fun h => e h.1), ct_f (p := fun k => p k ∧ ¬ q k) (fun h => e h.1)]; exact ih
theorem ct_none {p : Nat → Prop} {N : Nat} (h : ∀ k, k < N → ¬ p k) : ct p N = 0 := by
  induction N with
  | zero => rfl
  | succ N ih => rw [ct_f (h N (by omega)), ih fun k hk => h k (by omega)]
theorem ct_all (N : Nat) : ct (fun _ => True) N = N := by
  induction N with
  | zero => rfl
  | succ N ih => rw [ct_t trivial, ih]
theorem ct_le_N (p : Nat → Prop) (N : Nat) : ct p N ≤ N := by
  have := ct_le (p := p) (q := fun _ => True) (N := N) (fun _ _ _ => trivial)
  rw [ct_all] at this; exact this
theorem ct_one {p : Nat → Prop} {N j : Nat} (hj : j < N) (h : ∀ k, k < N → (p k ↔ k = j)) : ct p N = 1 := by
  induction N with
  | zero => omega
  | succ N ih =>
    by_cases e : j = N
    · subst e
      rw [ct_t ((h j (by omega)).2 rfl), ct_none (fun k hk e => by have := (h k (by omega)).1 e; omega)]
    · rw [ct_f (fun e2 => e ((h N (by omega)).1 e2).symm)]
      exact ih (by omega) fun k hk => h k (by omega)
theorem ct_pop {q : Nat → Prop} {M j : Nat} (hj : j < M) (h : q j) : ct q M = ct (fun k => q k ∧ k ≠ j) M + 1 := by
  have a := ct_split q (fun k => k = j) M
  have b : ct (fun k => q k ∧ k = j) M = 1 := ct_one hj (fun k _ => ⟨fun e => e.2, fun e => ⟨e ▸ h, e⟩⟩)
  have c : ct (fun k => q k ∧ k ≠ j) M = ct (fun k => q k ∧ ¬ k = j) M := rfl
  omega
theorem ct_pos {p : Nat → Prop} {N : Nat} : 0 < ct p N ↔ ∃ k, k < N ∧ p k := by
  constructor
  · intro h
    apply Classical.byContradiction
    intro e
    have := ct_none (p := p) (N := N) fun k hk hp => e ⟨k, hk, hp⟩
    omega
  · rintro ⟨k, h1, h2⟩
    have := ct_pop h1 h2; omega
theorem ct_inj {p q : Nat → Prop} {N M : Nat} (φ : Nat → Nat) (h1 : ∀ k, k < N → p k → φ k < M ∧ q (φ k)) (h2 : ∀ j k, j < N → k < N → p j → p k → φ j = φ k → j = k) : ct p N ≤ ct q M := by
  induction N generalizing q with
  | zero => exact Nat.zero_le _
  | succ N ih =>
    by_cases e : p N
    · obtain ⟨a, b⟩ := h1 N (by omega) e
      rw [ct_t e, ct_pop a b]
      have := ih (q := fun k => q k ∧ k ≠ φ N) (fun k hk hp => ⟨(h1 k (by omega) hp).1, (h1 k (by omega) hp).2, fun e2 => by have := h2 k N (by omega) (by omega) hp e e2; omega⟩) (fun j k hj hk => h2 j k (by omega) (by omega))
      omega
    · rw [ct_f e]; exact ih (fun k hk => h1 k (by omega)) (fun j k hj hk => h2 j k (by omega) (by omega))
/-- by a relation: each of p has its own of q -/
theorem ct_rel {p q : Nat → Prop} {N M : Nat} (R : Nat → Nat → Prop) (h1 : ∀ k, k < N → p k → ∃ j, j < M ∧ q j ∧ R k j) (h2 : ∀ i k j, i < N → k < N → p i → p k → j < M → R i j → R k j → i = k) : ct p N ≤ ct q M := by
  have : ∀ k, ∃ j, k < N → p k → (j < M ∧ q j ∧ R k j) := by
    intro k
    by_cases e : k < N ∧ p k
    · obtain ⟨j, hj⟩ := h1 k e.1 e.2; exact ⟨j, fun _ _ => hj⟩
    · exact ⟨0, fun a b => absurd ⟨a, b⟩ e⟩
  refine ct_inj (fun k => Classical.choose (this k)) (fun k hk hp => ?_) (fun i k hi hk pi pk e => ?_)
  · have := Classical.choose_spec (this k) hk hp; exact ⟨this.1, this.2.1⟩
  · have a := Classical.choose_spec (this i) hi pi
    have b := Classical.choose_spec (this k) hk pk
    refine h2 i k _ hi hk pi pk a.1 a.2.2 ?_
    have e' : Classical.choose (this i) = Classical.choose (this k) := e
    rw [e']; exact b.2.2
theorem ct_bij {p q : Nat → Prop} {N M : Nat} (R : Nat → Nat → Prop) (h1 : ∀ k, k < N → p k → ∃ j, j < M ∧ q j ∧ R k j) (h2 : ∀ j, j < M → q j → ∃ k, k < N ∧ p k ∧ R k j) (h3 : ∀ i k j, i < N → k < N → p i → p k → j < M → R i j → R k j → i = k) (h4 : ∀ k i j, k < N → i < M → j < M → q i → q j → R k i → R k j → i = j) : ct p N = ct q M :=
  Nat.le_antisymm (ct_rel R h1 h3) (ct_rel (fun j k => R k j) h2 (fun i j k hi hj qi qj hk a b => h4 k i j hk hi hj qi qj a b))
theorem php {N M : Nat} (φ : Nat → Nat) (h1 : ∀ k, k < N → φ k < M) (h2 : ∀ j k, j < N → k < N → φ j = φ k → j = k) : N ≤ M := by
  have := ct_inj (p := fun _ => True) (q := fun _ => True) (N := N) (M := M) φ (fun k hk _ => ⟨h1 k hk, trivial⟩) (fun j k hj hk _ _ => h2 j k hj hk)
  rw [ct_all, ct_all] at this; exact this
/-- sums -/
def sm (f : Nat → Nat) : Nat → Nat
  | 0 => 0
  | k + 1 => sm f k + f k
theorem sm_congr {f g : Nat → Nat} {N : Nat} (h : ∀ k, k < N → f k = g k) : sm f N = sm g N := by
  induction N with
  | zero => rfl
  | succ N ih => simp only [sm]; rw [ih fun k hk => h k (by omega), h N (by omega)]
theorem sm_add (f g : Nat → Nat) (N : Nat) : sm (fun k => f k + g k) N = sm f N + sm g N := by
  induction N with
  | zero => rfl
  | succ N ih => simp only [sm]; rw [ih]; omega
theorem sm_const (c N : Nat) : sm (fun _ => c) N = c * N := by
  induction N with
  | zero => rfl
  | succ N ih => simp only [sm]; rw [ih, Nat.mul_succ]
theorem sm_le {f g : Nat → Nat} {N : Nat} (h : ∀ k, k < N → f k ≤ g k) : sm f N ≤ sm g N := by
  induction N with
  | zero => exact Nat.le_refl _
  | succ N ih => simp only [sm]; have := ih fun k hk => h k (by omega); have := h N (by omega); omega
theorem sm_ind (p : Nat → Prop) (N : Nat) : sm (fun k => @ite Nat (p k) (Classical.propDecidable _) 1 0) N = ct p N := by
  induction N with
  | zero => rfl
  | succ N ih => simp only [sm, ct]; rw [ih]
/-- counting pairs both ways -/
theorem sm_swap (R : Nat → Nat → Prop) (N M : Nat) : sm (fun i => ct (R i) M) N = sm (fun j => ct (fun i => R i j) N) M := by
  induction N with
  | zero =>
    simp only [sm, ct]; rw [sm_const, Nat.zero_mul]
  | succ N ih =>
    simp only [sm, ct]
    rw [sm_add (fun j => ct (fun i => R i j) N) (fun j => @ite Nat (R N j) (Classical.propDecidable _) 1 0), ih, sm_ind]
theorem sm_ct (p : Nat → Prop) (c N : Nat) : sm (fun k => @ite Nat (p k) (Classical.propDecidable _) c 0) N = c * ct p N := by
  induction N with
  | zero => rfl
  | succ N ih =>
    simp only [sm, ct]; rw [ih]
    by_cases e : p N
    · simp [e, Nat.mul_add]
    · simp [e]
