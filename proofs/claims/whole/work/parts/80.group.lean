/-- sums of points -/
def vec (k : Nat → Int) (Q : Nat → V3) : V3 := (smI (fun p => k p * (Q p).1) 14, smI (fun p => k p * (Q p).2.1) 14, smI (fun p => k p * (Q p).2.2) 14)
theorem smI_add (f g : Nat → Int) : ∀ N, smI (fun k => f k + g k) N = smI f N + smI g N
  | 0 => rfl
  | N + 1 => by simp only [smI]; rw [smI_add f g N]; omega
theorem smI_mul (c : Int) (f : Nat → Int) : ∀ N, smI (fun k => c * f k) N = c * smI f N
  | 0 => by simp [smI]
  | N + 1 => by simp only [smI]; rw [smI_mul c f N, Int.mul_add]
theorem smI_zero {f : Nat → Int} {N : Nat} (h : ∀ k, k < N → f k = 0) : smI f N = 0 := by
  induction N with
  | zero => rfl
  | succ N ih => simp only [smI]; rw [ih fun k hk => h k (by omega), h N (by omega)]; rfl
theorem dot_vec (w : V3) (k : Nat → Int) (Q : Nat → V3) : dot w (vec k Q) = smI (fun p => k p * dot w (Q p)) 14 := by
  simp only [dot, vec]
  rw [← smI_mul, ← smI_mul, ← smI_mul, ← smI_add, ← smI_add]
  exact smI_congr (fun p _ => by grind)
theorem vec_shift {k : Nat → Int} (h0 : smI k 14 = 0) (Q : Nat → V3) (v : V3) : vec k (fun p => vsub (Q p) v) = vec k Q := by
  have key : ∀ (f : Nat → Int) (c : Int), smI (fun p => k p * (f p - c)) 14 = smI (fun p => k p * f p) 14 := by
    intro f c
    have : smI (fun p => k p * (f p - c)) 14 = smI (fun p => k p * f p + -c * k p) 14 := smI_congr (fun p _ => by grind)
    rw [this, smI_add, smI_mul, h0]; omega
  simp only [vec, vsub]
  rw [key, key, key]
theorem vec_lc (a b : Int) (k k' : Nat → Int) (Q : Nat → V3) : vec (fun p => a * k p + b * k' p) Q = vlc a (vec k Q) b (vec k' Q) := by
  have key : ∀ f : Nat → Int, smI (fun p => (a * k p + b * k' p) * f p) 14 = a * smI (fun p => k p * f p) 14 + b * smI (fun p => k' p * f p) 14 := by
    intro f
    rw [← smI_mul, ← smI_mul, ← smI_add]
    exact smI_congr (fun p _ => by grind)
  simp only [vec, vlc]
  rw [key, key, key]
theorem vec_congr {k : Nat → Int} {Q Q' : Nat → V3} (h : ∀ p, p < 14 → k p ≠ 0 → Q p = Q' p) : vec k Q = vec k Q' := by
  have key : ∀ p, p < 14 → (k p = 0 ∨ Q p = Q' p) := fun p hp => by
    by_cases e : k p = 0
    · exact Or.inl e
    · exact Or.inr (h p hp e)
  simp only [vec]
  refine v3ext ?_ ?_ ?_
  · exact smI_congr (fun p hp => by rcases key p hp with e | e <;> simp [e])
  · exact smI_congr (fun p hp => by rcases key p hp with e | e <;> simp [e])
  · exact smI_congr (fun p hp => by rcases key p hp with e | e <;> simp [e])
/-- weights on corners, in balance -/
def wt (P : Nat → V3) (m : Nat) (k : Nat → Int) : Prop := (∀ p, ¬ isCor P m p → k p = 0) ∧ smI k 14 = 0
theorem wt_lc {P : Nat → V3} {m : Nat} {k k' : Nat → Int} (h : wt P m k) (h' : wt P m k') (a b : Int) : wt P m (fun p => a * k p + b * k' p) := by
  refine ⟨fun p hp => by show a * k p + b * k' p = 0; rw [h.1 p hp, h'.1 p hp]; omega, ?_⟩
  rw [smI_add, smI_mul, smI_mul, h.2, h'.2]; omega
/-- a symmetry keeps products of such sums -/
theorem vec_sy {P : Nat → V3} {m : Nat} {s : Nat → Nat} (hsy : sy P m s) {k k' : Nat → Int} (h : wt P m k) (h' : wt P m k') : dot (vec k (fun p => P (s p))) (vec k' (fun p => P (s p))) = dot (vec k P) (vec k' P) := by
  by_cases hex : ∃ o, isCor P m o
  · obtain ⟨o, ho⟩ := hex
    rw [← vec_shift h.2 (fun p => P (s p)) (P (s o)), ← vec_shift h'.2 (fun p => P (s p)) (P (s o)), ← vec_shift h.2 P (P o), ← vec_shift h'.2 P (P o)]
    rw [dot_vec, dot_vec]
    refine smI_congr (fun q _ => ?_)
    by_cases hq : isCor P m q
    · congr 1
      rw [dot_comm, dot_vec, dot_comm, dot_vec]
      refine smI_congr (fun p _ => ?_)
      by_cases hp : isCor P m p
      · rw [sy_ip hsy ho hq ho hp]
      · rw [h.1 p hp]; simp
    · rw [h'.1 q hq]; simp
  · have z : ∀ Q, vec k Q = vO := by
      intro Q
      have : ∀ p, k p = 0 := fun p => h.1 p (fun hp => hex ⟨p, hp⟩)
      simp only [vec, vO, this, Int.zero_mul]
      rw [smI_zero (fun _ _ => rfl)]
    rw [z, z]; simp [dot, vO]
/-- weights moved by a symmetry -/
theorem vec_push {P : Nat → V3} {m : Nat} (hm : m ≤ 14) (hD : Dis P m) {s : Nat → Nat} (hsy : sy P m s) {k : Nat → Int} (h : wt P m k) : ∃ k', wt P m k' ∧ (∀ p, isCor P m p → k' (s p) = k p) ∧ ∀ Q : Nat → V3, vec k (fun p => Q (s p)) = vec k' Q := by
  obtain ⟨t, ht, t1, t2⟩ := sy_inv hD hsy
  have dec : ∀ p, ∃ v : Int, (isCor P m p → v = k (t p)) ∧ (¬ isCor P m p → v = 0) := by
    intro p
    by_cases e : isCor P m p
    · exact ⟨k (t p), fun _ => rfl, fun h => absurd e h⟩
    · exact ⟨0, fun h => absurd h e, fun _ => rfl⟩
  have dec2 : ∀ p, ∃ q : Nat, (isCor P m p → q = s p) ∧ (¬ isCor P m p → q = p) := by
    intro p
    by_cases e : isCor P m p
    · exact ⟨s p, fun _ => rfl, fun h => absurd e h⟩
    · exact ⟨p, fun h => absurd h e, fun _ => rfl⟩
  have hk : ∀ p, isCor P m p → Classical.choose (dec p) = k (t p) := fun p hp => (Classical.choose_spec (dec p)).1 hp
  have hk0 : ∀ p, ¬ isCor P m p → Classical.choose (dec p) = 0 := fun p hp => (Classical.choose_spec (dec p)).2 hp
  have hg : ∀ p, isCor P m p → Classical.choose (dec2 p) = s p := fun p hp => (Classical.choose_spec (dec2 p)).1 hp
  have hg0 : ∀ p, ¬ isCor P m p → Classical.choose (dec2 p) = p := fun p hp => (Classical.choose_spec (dec2 p)).2 hp
  have perm : ∀ f : Nat → Int, smI (fun p => k p * f (s p)) 14 = smI (fun q => Classical.choose (dec q) * f q) 14 := by
    intro f
    rw [← smI_perm (fun q => Classical.choose (dec q) * f q) 14 (fun p => Classical.choose (dec2 p)) (fun p hp => by
      by_cases e : isCor P m p
      · show Classical.choose (dec2 p) < 14
        rw [hg p e]; have := (hsy.1 p e).1; omega
      · show Classical.choose (dec2 p) < 14
        rw [hg0 p e]; exact hp) (fun p q hp hq e => by
      have e' : Classical.choose (dec2 p) = Classical.choose (dec2 q) := e
      by_cases e1 : isCor P m p <;> by_cases e2 : isCor P m q
      · rw [hg p e1, hg q e2] at e'; exact sy_inj hD hsy e1 e2 e'
      · rw [hg p e1, hg0 q e2] at e'; exact absurd (e' ▸ hsy.1 p e1) e2
      · rw [hg0 p e1, hg q e2] at e'; exact absurd (e' ▸ hsy.1 q e2) e1
      · rw [hg0 p e1, hg0 q e2] at e'; exact e')]
    refine smI_congr (fun p _ => ?_)
    by_cases e : isCor P m p
    · show k p * f (s p) = Classical.choose (dec (Classical.choose (dec2 p))) * f (Classical.choose (dec2 p))
      rw [hg p e, hk _ (hsy.1 p e), t1 p e]
    · show k p * f (s p) = Classical.choose (dec (Classical.choose (dec2 p))) * f (Classical.choose (dec2 p))
      rw [hg0 p e, hk0 p e, h.1 p e]; simp
  refine ⟨fun p => Classical.choose (dec p), ⟨fun p hp => hk0 p hp, ?_⟩, fun p hp => ?_, fun Q => ?_⟩
  · have := perm (fun _ => 1)
    have e1 : smI (fun p => k p * 1) 14 = smI k 14 := smI_congr (fun p _ => by omega)
    have e2 : smI (fun q => Classical.choose (dec q) * 1) 14 = smI (fun q => Classical.choose (dec q)) 14 := smI_congr (fun p _ => by omega)
    rw [e1, e2, h.2] at this
    exact this.symm
  · show Classical.choose (dec (s p)) = k p
    rw [hk _ (hsy.1 p hp), t1 p hp]
  · simp only [vec]
    refine v3ext ?_ ?_ ?_
    · exact perm (fun q => (Q q).1)
    · exact perm (fun q => (Q q).2.1)
    · exact perm (fun q => (Q q).2.2)
/-- what is 0 stays 0 -/
theorem vec_sy0 {P : Nat → V3} {m : Nat} {s : Nat → Nat} (hsy : sy P m s) {k k' : Nat → Int} (h : wt P m k) (h' : wt P m k') (a : Int) (he : vec k P = vlc a (vec k' P) 0 vO) : vec k (fun p => P (s p)) = vlc a (vec k' (fun p => P (s p))) 0 vO := by
  have w := wt_lc h h' 1 (-a)
  have z : vec (fun p => 1 * k p + -a * k' p) P = vO := by
    rw [vec_lc, he]; simp only [vlc, vO]
    refine v3ext ?_ ?_ ?_ <;> simp only <;> grind
  have g := vec_sy hsy w w
  rw [z] at g
  have z2 := dot_self_zero (g.trans (by simp [dot, vO]))
  rw [vec_lc, vO_iff] at z2
  simp only [vlc] at z2
  refine v3ext ?_ ?_ ?_ <;> simp only [vlc, vO] <;> grind
/-- at most three lines of least vectors in a plane -/
theorem four_lines {a u1 u2 u3 u4 : V3} {μ : Int} (ha : a ≠ vO) (hμ : 0 < μ) (a1 : dot u1 a = 0) (a2 : dot u2 a = 0) (a3 : dot u3 a = 0) (a4 : dot u4 a = 0) (n1 : dot u1 u1 = μ) (n2 : dot u2 u2 = μ) (n3 : dot u3 u3 = μ) (n4 : dot u4 u4 = μ)
    (b12 : -μ ≤ 2 * dot u1 u2 ∧ 2 * dot u1 u2 ≤ μ) (b13 : -μ ≤ 2 * dot u1 u3 ∧ 2 * dot u1 u3 ≤ μ) (b14 : -μ ≤ 2 * dot u1 u4 ∧ 2 * dot u1 u4 ≤ μ) (b23 : -μ ≤ 2 * dot u2 u3 ∧ 2 * dot u2 u3 ≤ μ) (b24 : -μ ≤ 2 * dot u2 u4 ∧ 2 * dot u2 u4 ≤ μ) (b34 : -μ ≤ 2 * dot u3 u4 ∧ 2 * dot u3 u4 ≤ μ) : False := by
  -- three vectors across a have no body
  have gram : ∀ u v w : V3, dot u a = 0 → dot v a = 0 → dot w a = 0 → dot w (vcr u v) = 0 := by
    intro u v w hu hv hw
    have pp := perp_par (n := a) (a := u) (b := v) (by rw [dot_comm]; exact hu) (by rw [dot_comm]; exact hv)
    have := par_dot (e := w) ha pp (by rw [dot_comm]; exact hw)
    rw [dot_comm] at this; exact this
  have three : ∀ u v w : V3, dot u a = 0 → dot v a = 0 → dot w a = 0 → dot u u = μ → dot v v = μ → dot w w = μ → (-μ ≤ 2 * dot u v ∧ 2 * dot u v ≤ μ) → (-μ ≤ 2 * dot u w ∧ 2 * dot u w ≤ μ) → (-μ ≤ 2 * dot v w ∧ 2 * dot v w ≤ μ) → (2 * dot u v = μ ∨ 2 * dot u v = -μ) ∧ (2 * dot u w = μ ∨ 2 * dot u w = -μ) ∧ (2 * dot v w = μ ∨ 2 * dot v w = -μ) ∧ (2 * dot u v) * (2 * dot u w) * (2 * dot v w) < 0 := by
    intro u v w hu hv hw nu nv nw h1 h2 h3
    have g := gram u v w hu hv hw
    have dm := det_mul u v w u v w
    rw [g, nu, nv, nw, dot_comm w u, dot_comm w v, dot_comm v u] at dm
    generalize dot u v = x at *
    generalize dot u w = y at *
    generalize dot v w = z at *
    have sq : ∀ t : Int, -μ ≤ t ∧ t ≤ μ → t * t ≤ μ * μ ∧ (t * t = μ * μ → t = μ ∨ t = -μ) := by
      intro t ht
      have f : μ * μ - t * t = (μ - t) * (μ + t) := by grind
      have p := Int.mul_nonneg (show 0 ≤ μ - t by omega) (show 0 ≤ μ + t by omega)
      refine ⟨by omega, fun e => ?_⟩
      have : (μ - t) * (μ + t) = 0 := by omega
      rcases Int.mul_eq_zero.1 this with h | h <;> omega
    have sx := sq (2 * x) h1
    have sy' := sq (2 * y) h2
    have sz := sq (2 * z) h3
    have rel : 4 * (μ * (μ * μ)) + (2 * x) * (2 * y) * (2 * z) = μ * ((2 * x) * (2 * x)) + μ * ((2 * y) * (2 * y)) + μ * ((2 * z) * (2 * z)) := by grind
    -- the product is not below -μ^3
    have pr : -(μ * (μ * μ)) ≤ (2 * x) * (2 * y) * (2 * z) := by
      have q1 : -(μ * μ) ≤ (2 * x) * (2 * y) ∧ (2 * x) * (2 * y) ≤ μ * μ := mul_bd h1 h2
      have q2 := mul_bd q1 h3
      have : μ * μ * μ = μ * (μ * μ) := by grind
      omega
    have mx := Int.mul_le_mul_of_nonneg_left sx.1 (Int.le_of_lt hμ)
    have my := Int.mul_le_mul_of_nonneg_left sy'.1 (Int.le_of_lt hμ)
    have mz := Int.mul_le_mul_of_nonneg_left sz.1 (Int.le_of_lt hμ)
    have ex : μ * ((2 * x) * (2 * x)) = μ * (μ * μ) := by omega
    have ey : μ * ((2 * y) * (2 * y)) = μ * (μ * μ) := by omega
    have ez : μ * ((2 * z) * (2 * z)) = μ * (μ * μ) := by omega
    have c := fun t (e : μ * t = μ * (μ * μ)) => Int.eq_of_mul_eq_mul_left (show μ ≠ 0 by omega) e
    have m3 := Int.mul_pos hμ (Int.mul_pos hμ hμ)
    exact ⟨sx.2 (c _ ex), sy'.2 (c _ ey), sz.2 (c _ ez), by omega⟩
  obtain ⟨x12, x13, x23, p123⟩ := three u1 u2 u3 a1 a2 a3 n1 n2 n3 b12 b13 b23
  obtain ⟨_, x14, x24, p124⟩ := three u1 u2 u4 a1 a2 a4 n1 n2 n4 b12 b14 b24
  obtain ⟨_, _, x34, p134⟩ := three u1 u3 u4 a1 a3 a4 n1 n3 n4 b13 b14 b34
  -- with signs against u1, u3 and u4 are one
  have body : dot a (vcr u1 u2) ≠ 0 := by
    intro e
    have l := lagr u1 u2
    have pp := perp_par (n := a) (a := u1) (b := u2) (by rw [dot_comm]; exact a1) (by rw [dot_comm]; exact a2)
    have z := dot_self_zero (par_dot (e := vcr u1 u2) ha pp e)
    rw [z, n1, n2] at l
    have l' : μ * μ = dot u1 u2 * dot u1 u2 := by simp only [vO] at l; simp only [dot] at l ⊢; omega
    have : (2 * dot u1 u2) * (2 * dot u1 u2) = μ * μ := by rcases x12 with h | h <;> rw [h] <;> grind
    have m2 := Int.mul_pos hμ hμ
    grind
  have fin : ∀ s : Int, (s = 1 ∨ s = -1) → dot u3 u1 = s * dot u4 u1 → dot u3 u2 = s * dot u4 u2 → u3 = vlc s u4 0 vO := by
    intro s hs' h1 h2
    refine vec_uni (a := u1) (b := u2) (c := a) body ?_ ?_ ?_
    · rw [dot_lc, h1]; simp [dot, vO]
    · rw [dot_lc, h2]; simp [dot, vO]
    · rw [dot_lc, a3, a4]; simp [dot, vO]
  have c31 := dot_comm u3 u1
  have c41 := dot_comm u4 u1
  have c32 := dot_comm u3 u2
  have c42 := dot_comm u4 u2
  have pos3 := Int.mul_pos hμ (Int.mul_pos hμ hμ)
  have done : ∀ s : Int, (s = 1 ∨ s = -1) → u3 = vlc s u4 0 vO → False := by
    intro s hs' e
    have t : dot u3 u4 = s * μ := by rw [e, dot_lc, n4]; simp [dot, vO]
    rcases hs' with rfl | rfl <;> rcases x34 with h | h <;> omega
  have mu3 : ∀ x y z : Int, (x = μ ∨ x = -μ) → (y = μ ∨ y = -μ) → (z = μ ∨ z = -μ) → x * y * z < 0 → (x = μ → y = μ → z = -μ) ∧ (x = μ → y = -μ → z = μ) ∧ (x = -μ → y = μ → z = μ) ∧ (x = -μ → y = -μ → z = -μ) := by
    intro x y z hx hy hz hp
    refine ⟨fun h1 h2 => ?_, fun h1 h2 => ?_, fun h1 h2 => ?_, fun h1 h2 => ?_⟩ <;> rcases hz with h | h <;> (try exact h) <;> (exfalso; rw [h1, h2, h] at hp; grind)
  have k3 := mu3 _ _ _ x12 x13 x23 p123
  have k4 := mu3 _ _ _ x12 x14 x24 p124
  rcases x12 with y2 | y2 <;> rcases x13 with y3 | y3 <;> rcases x14 with y4 | y4
  · exact done 1 (Or.inl rfl) (fin 1 (Or.inl rfl) (by omega) (by have := k3.1 y2 y3; have := k4.1 y2 y4; omega))
  · exact done (-1) (Or.inr rfl) (fin (-1) (Or.inr rfl) (by omega) (by have := k3.1 y2 y3; have := k4.2.1 y2 y4; omega))
  · exact done (-1) (Or.inr rfl) (fin (-1) (Or.inr rfl) (by omega) (by have := k3.2.1 y2 y3; have := k4.1 y2 y4; omega))
  · exact done 1 (Or.inl rfl) (fin 1 (Or.inl rfl) (by omega) (by have := k3.2.1 y2 y3; have := k4.2.1 y2 y4; omega))
  · exact done 1 (Or.inl rfl) (fin 1 (Or.inl rfl) (by omega) (by have := k3.2.2.1 y2 y3; have := k4.2.2.1 y2 y4; omega))
  · exact done (-1) (Or.inr rfl) (fin (-1) (Or.inr rfl) (by omega) (by have := k3.2.2.1 y2 y3; have := k4.2.2.2 y2 y4; omega))
  · exact done (-1) (Or.inr rfl) (fin (-1) (Or.inr rfl) (by omega) (by have := k3.2.2.2 y2 y3; have := k4.2.2.1 y2 y4; omega))
  · exact done 1 (Or.inl rfl) (fin 1 (Or.inl rfl) (by omega) (by have := k3.2.2.2 y2 y3; have := k4.2.2.2 y2 y4; omega))
