def smI (f : Nat → Int) : Nat → Int
  | 0 => 0
  | k + 1 => smI f k + f k
theorem smI_congr {f g : Nat → Int} {N : Nat} (h : ∀ k, k < N → f k = g k) : smI f N = smI g N := by
  induction N with
  | zero => rfl
  | succ N ih => simp only [smI]; rw [ih fun k hk => h k (by omega), h N (by omega)]
theorem smI_nup (h : Nat → Int) (σ : Nat → Nat) (j v : Nat) : ∀ N, j < N → smI (fun i => h (nup σ j v i)) N = smI (fun i => h (σ i)) N - h (σ j) + h v
  | 0, hj => by omega
  | N + 1, hj => by
    simp only [smI]
    by_cases e : j = N
    · subst e
      rw [nup_s, smI_congr (g := fun i => h (σ i)) (fun k hk => by rw [nup_n (by omega)])]; omega
    · rw [smI_nup h σ j v N (by omega), nup_n (by omega)]; omega
/-- a sum may be taken in any order -/
theorem smI_perm (h : Nat → Int) : ∀ (N : Nat) (σ : Nat → Nat), (∀ i, i < N → σ i < N) → (∀ i j, i < N → j < N → σ i = σ j → i = j) → smI (fun i => h (σ i)) N = smI h N
  | 0, σ, _, _ => rfl
  | N + 1, σ, h1, h2 => by
    simp only [smI]
    by_cases e : σ N = N
    · rw [e, smI_perm h N σ (fun i hi => by
        have a := h1 i (by omega)
        have b : σ i ≠ N := fun c => by have := h2 i N (by omega) (by omega) (by rw [c, e]); omega
        omega) (fun i j hi hj => h2 i j (by omega) (by omega))]
    · -- something comes to N
      have hex : ∃ j, j < N ∧ σ j = N := by
        apply Classical.byContradiction
        intro hno
        have := php (N := N + 1) (M := N) σ (fun k hk => by
          have a := h1 k hk
          have b : σ k ≠ N := fun c => by
            by_cases ek : k = N
            · subst ek; exact e c
            · exact hno ⟨k, by omega, c⟩
          omega) h2
        omega
      obtain ⟨j, j1, j2⟩ := hex
      have a := smI_perm h N (nup σ j (σ N)) (fun i hi => by
        by_cases ei : i = j
        · subst ei; rw [nup_s]; have := h1 N (by omega); omega
        · rw [nup_n ei]
          have a := h1 i (by omega)
          have b : σ i ≠ N := fun c => ei (h2 i j (by omega) (by omega) (by rw [c, j2]))
          omega) (fun i k hi hk ee => by
        by_cases ei : i = j <;> by_cases ek : k = j
        · omega
        · rw [ei, nup_s, nup_n ek] at ee; have := h2 N k (by omega) (by omega) ee; omega
        · rw [ek, nup_s, nup_n ei] at ee; have := h2 i N (by omega) (by omega) ee; omega
        · rw [nup_n ei, nup_n ek] at ee; exact h2 i k (by omega) (by omega) ee)
      rw [smI_nup h σ j (σ N) N j1, j2] at a
      omega
/-- over a round's triangles -/
def TS (g : Nat → Nat → Nat → Int) (R : Nat → Nat) (L : Nat) : Int := smI (fun t => g (R 0) (R (t + 1)) (R (t + 2))) (L - 2)
theorem TS_congr (g : Nat → Nat → Nat → Int) {R R' : Nat → Nat} {L : Nat} (h : ∀ k, k < L → R k = R' k) : TS g R L = TS g R' L := by
  simp only [TS]
  refine smI_congr (fun k hk => ?_)
  rw [h 0 (by omega), h (k + 1) (by omega), h (k + 2) (by omega)]
theorem wgK_spec (P : Nat → V3) (x : FD) : ∀ (j k : Nat) (s : Int) (mo : Nat → Int),
    (wgK P x j (k + 2) s mo).1 = s + (smI (fun t => wPt P (x.2.2.2.2.2 0) (x.2.2.2.2.2 (t + 1)) (x.2.2.2.2.2 (t + 2))) (k + j) - smI (fun t => wPt P (x.2.2.2.2.2 0) (x.2.2.2.2.2 (t + 1)) (x.2.2.2.2.2 (t + 2))) k) ∧
    ∀ ax, ax < 3 → (wgK P x j (k + 2) s mo).2 ax = mo ax + (smI (fun t => wPt P (x.2.2.2.2.2 0) (x.2.2.2.2.2 (t + 1)) (x.2.2.2.2.2 (t + 2)) * (vax (P (x.2.2.2.2.2 0)) ax + vax (P (x.2.2.2.2.2 (t + 1))) ax + vax (P (x.2.2.2.2.2 (t + 2))) ax + vax (P 0) ax)) (k + j) - smI (fun t => wPt P (x.2.2.2.2.2 0) (x.2.2.2.2.2 (t + 1)) (x.2.2.2.2.2 (t + 2)) * (vax (P (x.2.2.2.2.2 0)) ax + vax (P (x.2.2.2.2.2 (t + 1))) ax + vax (P (x.2.2.2.2.2 (t + 2))) ax + vax (P 0) ax)) k)
  | 0, k, s, mo => by
    simp only [wgK, Nat.add_zero]
    exact ⟨by omega, fun ax _ => by omega⟩
  | j + 1, k, s, mo => by
    simp only [wgK]
    obtain ⟨a, b⟩ := wgK_spec P x j (k + 1) (s + wPt P (x.2.2.2.2.2 0) (x.2.2.2.2.2 (k + 2 - 1)) (x.2.2.2.2.2 (k + 2))) (wMo P (x.2.2.2.2.2 0) (x.2.2.2.2.2 (k + 2 - 1)) (x.2.2.2.2.2 (k + 2)) mo)
    rw [show k + 2 + 1 = k + 1 + 2 by omega]
    rw [show k + 2 - 1 = k + 1 by omega] at *
    rw [show k + (j + 1) = k + 1 + j by omega]
    refine ⟨?_, fun ax hax => ?_⟩
    · rw [a]; simp only [smI]; omega
    · rw [b ax hax]
      simp only [wMo]
      rw [if_pos hax]; simp only [smI]; omega
def wMx (P : Nat → V3) (ax p q r : Nat) : Int := wPt P p q r * (vax (P p) ax + vax (P q) ax + vax (P r) ax + vax (P 0) ax)
theorem wgR_spec (P : Nat → V3) (f : Nat → FD) : ∀ (k i : Nat) (s : Int) (mo : Nat → Int),
    (wgR P f k i s mo).1 = s + (smI (fun j => TS (wPt P) (f j).2.2.2.2.2 (f j).2.2.2.2.1) (i + k) - smI (fun j => TS (wPt P) (f j).2.2.2.2.2 (f j).2.2.2.2.1) i) ∧
    ∀ ax, ax < 3 → (wgR P f k i s mo).2 ax = mo ax + (smI (fun j => TS (wMx P ax) (f j).2.2.2.2.2 (f j).2.2.2.2.1) (i + k) - smI (fun j => TS (wMx P ax) (f j).2.2.2.2.2 (f j).2.2.2.2.1) i)
  | 0, i, s, mo => by
    simp only [wgR, Nat.add_zero]
    exact ⟨by omega, fun ax _ => by omega⟩
  | k + 1, i, s, mo => by
    simp only [wgR]
    obtain ⟨a, b⟩ := wgR_spec P f k (i + 1) (wgK P (f i) ((f i).2.2.2.2.1 - 2) 2 s mo).1 (wgK P (f i) ((f i).2.2.2.2.1 - 2) 2 s mo).2
    obtain ⟨c, d⟩ := wgK_spec P (f i) ((f i).2.2.2.2.1 - 2) 0 s mo
    simp only [Nat.zero_add] at c d
    rw [show i + (k + 1) = i + 1 + k by omega]
    have z : ∀ g : Nat → Int, smI g 0 = 0 := fun g => rfl
    refine ⟨?_, fun ax hax => ?_⟩
    · rw [a, c, z]; simp only [smI, TS]; omega
    · rw [b ax hax, d ax hax, z]; simp only [smI, TS, wMx]; omega
theorem hSix_sum (P : Nat → V3) (m : Nat) : hSix P m = smI (fun i => TS (wPt P) (fRow P m i) (fLen P m i)) (blF P m).1 := by
  have := (wgR_spec P (blF P m).2 (blF P m).1 0 0 (fun _ => 0)).1
  simp only [hSix]
  rw [this]
  simp only [Nat.zero_add]
  have z : ∀ g : Nat → Int, smI g 0 = 0 := fun g => rfl
  rw [z, Int.sub_zero, Int.zero_add]
theorem hMo_sum (P : Nat → V3) (m ax : Nat) (hax : ax < 3) : hMo P m ax = smI (fun i => TS (wMx P ax) (fRow P m i) (fLen P m i)) (blF P m).1 := by
  have := (wgR_spec P (blF P m).2 (blF P m).1 0 0 (fun _ => 0)).2 ax hax
  simp only [hMo]
  rw [this]
  simp only [Nat.zero_add]
  have z : ∀ g : Nat → Int, smI g 0 = 0 := fun g => rfl
  rw [z, Int.sub_zero, Int.zero_add]
/-- the model's faces give the same sums -/
theorem sum_mtc {P : Nat → V3} {m : Nat} (hm : m ≤ 14) (hb : ∀ j, j < m → vbd 20 (P j)) (hD : Dis P m) {t : B9} (h : mtc P m t) (g : Nat → Nat → Nat → Int) : smI (fun f => TS g (fun k => t.2.2.2.2.2.1 (14 * f + k)) (t.2.2.2.2.1 f)) t.2.2.1 = smI (fun i => TS g (fRow P m i) (fLen P m i)) (blF P m).1 := by
  obtain ⟨hF, hi⟩ := h
  obtain ⟨⟨c1, c2, c3, c4⟩, _⟩ := blF_spec hm hb hD
  rw [hF]
  rw [← smI_perm (fun f => TS g (fun k => t.2.2.2.2.2.1 (14 * f + k)) (t.2.2.2.2.1 f)) (blF P m).1 t.2.2.2.2.2.2.2.2 (fun i h => by have := (hi i h).1; omega) (fun i j h h' e => by
    have a := (hi i h).2.1
    have b := (hi j h').2.1
    rw [e] at a
    exact c3 i j h h' (a.symm.trans b))]
  refine smI_congr (fun i h => ?_)
  obtain ⟨_, _, _, a, b⟩ := hi i h
  rw [a]
  exact TS_congr g (fun k hk => b k hk)
theorem smI_nonneg {f : Nat → Int} {N : Nat} (h : ∀ k, k < N → 0 ≤ f k) : 0 ≤ smI f N := by
  induction N with
  | zero => exact Int.le_refl _
  | succ N ih => simp only [smI]; have := ih fun k hk => h k (by omega); have := h N (by omega); omega
theorem smI_pos {f : Nat → Int} {N j : Nat} (h : ∀ k, k < N → 0 ≤ f k) (hj : j < N) (hp : 0 < f j) : 0 < smI f N := by
  induction N with
  | zero => omega
  | succ N ih =>
    simp only [smI]
    by_cases e : j = N
    · subst e; have := smI_nonneg (f := f) (N := j) fun k hk => h k (by omega); omega
    · have := ih (fun k hk => h k (by omega)) (by omega); have := h N (by omega); omega
theorem wPt_face {P : Nat → V3} {m : Nat} {n : V3} {l : Int} (hF : isF P m n l) {p q r : Nat} (hp : fA P m n l p) (hq : fA P m n l q) (hr : fA P m n l r) : dot n n * wPt P p q r = swg P p q r n * (l - dot n (P 0)) := by
  have pa := perp_par (n := n) (a := vsub (P q) (P p)) (b := vsub (P r) (P p)) (by rw [dot_sub, hq.2, hp.2]; omega) (by rw [dot_sub, hr.2, hp.2]; omega)
  have pa' : vcr n (ncr P p q r) = vO := pa
  have key : ∀ u : V3, dot n n * dot (ncr P p q r) u = dot n (ncr P p q r) * dot n u := by
    intro u
    rw [vO_iff] at pa'; simp only [vcr] at pa'; obtain ⟨a1, a2, a3⟩ := pa'
    generalize ncr P p q r = N at *
    simp only [dot]; grind
  have k := key (vsub (P 0) (P p))
  have e : wPt P p q r = - dot (ncr P p q r) (vsub (P 0) (P p)) := by
    show -(dot (vsub (P 0) (P p)) (ncr P p q r)) = _
    rw [dot_comm]
  rw [e, swg_ncr]
  rw [dot_sub n, hp.2] at k
  have : dot n n * - dot (ncr P p q r) (vsub (P 0) (P p)) = - (dot n n * dot (ncr P p q r) (vsub (P 0) (P p))) := by grind
  rw [this, k]; grind
/-- some face is off point 0 -/
theorem F_no0 {P : Nat → V3} {m : Nat} (hm : m ≤ 14) (hD : Dis P m) {n : V3} {l : Int} (hF : isF P m n l) {z : Nat} (hz : z < m) : ∃ n' l', isF P m n' l' ∧ dot n' (P z) < l' := by
  by_cases h0 : dot n (P z) = l
  · have hzA : fA P m n l z := ⟨hz, h0⟩
    have nn := gcd3_ne hF.1
    obtain ⟨R, L, hR⟩ := F_rnd hm hD hF
    -- an edge whose line misses z
    have hed : ∃ p q, expo P (fA P m n l) n p ∧ nxt P (fA P m n l) n p q ∧ swg P p q z n ≠ 0 := by
      by_cases hx : expo P (fA P m n l) n z
      · obtain ⟨a, b, xa, xb, na, nb, ab, av, bv⟩ := rnd_at hR hx
        obtain ⟨a', b', xa', xb', na', nb', ab', av', bv'⟩ := rnd_at hR xb
        have ea : a' = z := F_sam hD hF xa'.1 hx.1 (nxt_inj nn xa' hx na' nb (sam_refl ..))
        refine ⟨b, b', xb, nb', ?_⟩
        have := nxt_strict nn xb hx nb' (fun e => bv (F_sam hD hF xb.1 hx.1 e)) (fun e => by
          have := F_sam hD hF hx.1 xb'.1 e
          exact ab' (ea.trans this))
        omega
      · obtain ⟨⟨l3, _⟩, ex, inj, cov, _, nx, nl⟩ := hR
        by_cases e1 : swg P (R 0) (R 1) z n = 0
        · refine ⟨R 1, R 2, ex 1 (by omega), nx 1 (by omega), fun e2 => hx ?_⟩
          obtain ⟨x1, c, c1, c2⟩ := ex 1 (by omega)
          have st : 0 < swg P (R 1) (R 2) (R 0) n := nxt_strict nn (ex 1 (by omega)) (ex 0 (by omega)) (nx 1 (by omega)) (fun e => by have := inj 1 0 (by omega) (by omega) (F_sam hD hF (ex 1 (by omega)).1 (ex 0 (by omega)).1 e); omega) (fun e => by have := inj 0 2 (by omega) (by omega) (F_sam hD hF (ex 0 (by omega)).1 (ex 2 (by omega)).1 e); omega)
          have pl := pl1 P c1 (R 1) (R 2) (R 0) z
          have e3 : swg P (R 1) z (R 0) n = 0 := by rw [swg_rot P (R 0) (R 1) z]; exact e1
          have e2' : swg P (R 1) (R 2) z n = 0 := e2
          rw [e3, e2', Int.zero_mul, Int.zero_mul] at pl
          have := (Int.mul_eq_zero.1 (show swg P (R 1) (R 2) (R 0) n * (dot c (P z) - dot c (P (R 1))) = 0 by omega)).resolve_left (by omega)
          rcases c2 z hzA with s | s
          · have := F_sam hD hF x1 hzA s
            rw [← this]; exact ex 1 (by omega)
          · omega
        · exact ⟨R 0, R 1, ex 0 (by omega), nx 0 (by omega), e1⟩
    obtain ⟨p, q, xp, nq, sw⟩ := hed
    obtain ⟨n', l', F', p', q', d'⟩ := F_ridge hF xp.1 nq
    refine ⟨n', l', F', ?_⟩
    rcases Int.lt_or_eq_of_le (F'.2.1 z hz) with u | u
    · exact u
    · exfalso
      have hN : ncr P p q z ≠ vO := fun e => sw ((F_nc hF xp.1 nq.1 hzA).2 e)
      exact d' (F_uni hF F' hN xp.1.2 nq.1.2 h0 p'.2 q'.2 u).1.symm
  · exact ⟨n, l, hF, by have := hF.2.1 z hz; omega⟩
theorem hSix_pos {P : Nat → V3} {m : Nat} (hm : m ≤ 14) (hb : ∀ j, j < m → vbd 20 (P j)) (hD : Dis P m) (h : 0 < (blF P m).1) : 0 < hSix P m := by
  obtain ⟨⟨c1, c2, c3, c4⟩, call⟩ := blF_spec hm hb hD
  have hm0 : 0 < m := by
    have := (c2 0 h).1
    obtain ⟨p, _, _, hp, _⟩ := this.2.2.2; omega
  obtain ⟨n, l, hF, hz⟩ := F_no0 hm hD (c2 0 h).1 hm0
  obtain ⟨i, i1, i2, i3⟩ := call n l hF
  rw [hSix_sum]
  -- each triangle
  have tri : ∀ i, i < (blF P m).1 → ∀ t, t < fLen P m i - 2 → 0 < swg P (fRow P m i 0) (fRow P m i (t + 1)) (fRow P m i (t + 2)) ((blF P m).2 i).1 := by
    intro i hi t ht
    obtain ⟨f1, f2, ⟨⟨l3, _⟩, ex, inj, cov, _, nx, nl⟩, f4⟩ := c2 i hi
    have ns : ∀ a b, a < fLen P m i → b < fLen P m i → a ≠ b → ¬ sam P ((blF P m).2 i).1 (fRow P m i a) (fRow P m i b) := fun a b ha hb' hab e => hab (inj a b ha hb' (F_sam hD f1 (ex a ha).1 (ex b hb').1 e))
    have := nxt_strict (gcd3_ne f1.1) (ex (t + 1) (by simp only [fLen] at ht; omega)) (ex 0 (by omega)) (nx (t + 1) (by simp only [fLen] at ht; omega)) (ns (t + 1) 0 (by omega) (by simp only [fLen]; omega) (by omega)) (ns 0 (t + 1 + 1) (by simp only [fLen]; omega) (by omega) (by omega))
    rw [swg_rot] at this
    exact this
  have on : ∀ i, i < (blF P m).1 → ∀ k, k < fLen P m i → fA P m ((blF P m).2 i).1 ((blF P m).2 i).2.1 (fRow P m i k) := fun i hi k hk => ((c2 i hi).2.2.1.2.1 k hk).1
  have l3 : ∀ i, i < (blF P m).1 → 3 ≤ fLen P m i := fun i hi => (c2 i hi).2.2.1.1.1
  have each : ∀ i, i < (blF P m).1 → ∀ t, t < fLen P m i - 2 → 0 ≤ wPt P (fRow P m i 0) (fRow P m i (t + 1)) (fRow P m i (t + 2)) ∧ (dot ((blF P m).2 i).1 (P 0) < ((blF P m).2 i).2.1 → 0 < wPt P (fRow P m i 0) (fRow P m i (t + 1)) (fRow P m i (t + 2))) := by
    intro i hi t ht
    have w := wPt_face (c2 i hi).1 (on i hi 0 (by omega)) (on i hi (t + 1) (by omega)) (on i hi (t + 2) (by omega))
    have s := tri i hi t ht
    have np := dot_self_pos (gcd3_ne (c2 i hi).1.1)
    have sup := (c2 i hi).1.2.1 0 hm0
    constructor
    · have := Int.mul_nonneg (Int.le_of_lt s) (show 0 ≤ ((blF P m).2 i).2.1 - dot ((blF P m).2 i).1 (P 0) by omega)
      rw [← w] at this
      exact Int.nonneg_of_mul_nonneg_right this np
    · intro hlt
      have := Int.mul_pos s (show 0 < ((blF P m).2 i).2.1 - dot ((blF P m).2 i).1 (P 0) by omega)
      rw [← w] at this
      exact Int.pos_of_mul_pos_right this np
  refine smI_pos (j := i) (fun k hk => smI_nonneg (fun t ht => (each k hk t ht).1)) i1 ?_
  refine smI_pos (j := 0) (fun t ht => (each i i1 t ht).1) (by have := l3 i i1; omega) ?_
  exact (each i i1 0 (by have := l3 i i1; omega)).2 (by rw [i2, i3]; exact hz)
