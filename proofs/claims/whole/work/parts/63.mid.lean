/-- v is a middle of the face, seen along g, with so a turn -/
def mid (P : Nat → V3) (m : Nat) (g n : V3) (l s : Int) (v : Nat) : Prop :=
  dot n (P v) = l ∧ ∃ a b, a < m ∧ b < m ∧ dot n (P a) = l ∧ dot n (P b) = l ∧ dot g (P a) < dot g (P v) ∧ dot g (P v) < dot g (P b) ∧ 0 < s * swg P a v b n
theorem swg_ncr (P : Nat → V3) (p q r : Nat) (d : V3) : swg P p q r d = dot d (ncr P p q r) := rfl
theorem ncr_mid (P : Nat → V3) (a v b : Nat) : ncr P a v b = vneg (ncr P v a b) := by
  simp only [ncr, vcr, vsub, vneg, Prod.mk.injEq]; grind
theorem mid_uni {P : Nat → V3} {m : Nat} {g n n' : V3} {l l' s : Int} {v : Nat} (hv : v < m) (hs : s = 1 ∨ s = -1) (h : isF P m n l) (h' : isF P m n' l') (u : mid P m g n l s v) (u' : mid P m g n' l' s v) : n = n' ∧ l = l' := by
  obtain ⟨ev, a, b, ha, hb, ea, eb, ga, gb, sw⟩ := u
  obtain ⟨ev', a', b', ha', hb', ea', eb', ga', gb', sw'⟩ := u'
  rw [swg_ncr, ncr_mid] at sw sw'
  have hsub : ∀ w u, dot n' (vsub (P w) (P u)) = dot n' (P w) - dot n' (P u) := fun w u => dot_sub ..
  have na := h'.2.1 a ha
  have nb := h'.2.1 b hb
  have na' := h.2.1 a' ha'
  have nb' := h.2.1 b' hb'
  have pa := perp_par (n := n) (a := vsub (P a) (P v)) (b := vsub (P b) (P v)) (by rw [dot_sub]; omega) (by rw [dot_sub]; omega)
  have pa' := perp_par (n := n') (a := vsub (P a') (P v)) (b := vsub (P b') (P v)) (by rw [dot_sub]; omega) (by rw [dot_sub]; omega)
  have key : ∀ n n' N : V3, vcr n N = vO → dot n n * dot n' (vcr g N) = dot n N * dot n' (vcr g n) := by
    intro n n' N e
    rw [vO_iff] at e; simp only [vcr] at e; obtain ⟨e1, e2, e3⟩ := e
    simp only [dot, vcr]; grind
  have k1 := key n n' _ pa
  have k2 := key n' n _ pa'
  have dd : ∀ n' a b, dot n' (vcr g (vcr (vsub (P a) (P v)) (vsub (P b) (P v)))) = (dot n' (P a) - dot n' (P v)) * (dot g (P b) - dot g (P v)) + (dot n' (P b) - dot n' (P v)) * (dot g (P v) - dot g (P a)) := by
    intro n' a b; simp only [dot, vcr, vsub]; grind
  rw [dd] at k1 k2
  have hnn : dot n (vcr g n') = - dot n' (vcr g n) := by simp only [dot, vcr]; grind
  rw [hnn] at k2
  have neg : ∀ n N : V3, dot n (vneg N) = - dot n N := by intro n N; simp only [dot, vneg]; grind
  have en : dot n (ncr P v a b) = dot n (vcr (vsub (P a) (P v)) (vsub (P b) (P v))) := rfl
  have en' : dot n' (ncr P v a' b') = dot n' (vcr (vsub (P a') (P v)) (vsub (P b') (P v))) := rfl
  rw [neg, en] at sw
  rw [neg, en'] at sw'
  have np := dot_self_pos (gcd3_ne h.1)
  have np' := dot_self_pos (gcd3_ne h'.1)
  have t1 : (dot n' (P a) - dot n' (P v)) * (dot g (P b) - dot g (P v)) ≤ 0 := Int.mul_nonpos_of_nonpos_of_nonneg (by omega) (by omega)
  have t2 : (dot n' (P b) - dot n' (P v)) * (dot g (P v) - dot g (P a)) ≤ 0 := Int.mul_nonpos_of_nonpos_of_nonneg (by omega) (by omega)
  have t1' : (dot n (P a') - dot n (P v)) * (dot g (P b') - dot g (P v)) ≤ 0 := Int.mul_nonpos_of_nonpos_of_nonneg (by omega) (by omega)
  have t2' : (dot n (P b') - dot n (P v)) * (dot g (P v) - dot g (P a')) ≤ 0 := Int.mul_nonpos_of_nonpos_of_nonneg (by omega) (by omega)
  generalize hT : (dot n' (P a) - dot n' (P v)) * (dot g (P b) - dot g (P v)) = T1 at *
  generalize hT2 : (dot n' (P b) - dot n' (P v)) * (dot g (P v) - dot g (P a)) = T2 at *
  generalize (dot n (P a') - dot n (P v)) * (dot g (P b') - dot g (P v)) = T1' at *
  generalize (dot n (P b') - dot n (P v)) * (dot g (P v) - dot g (P a')) = T2' at *
  generalize hs1 : dot n (vcr (vsub (P a) (P v)) (vsub (P b) (P v))) = s1 at *
  generalize dot n' (vcr (vsub (P a') (P v)) (vsub (P b') (P v))) = s2 at *
  generalize dot n' (vcr g n) = δ at *
  have u1 : s1 * δ ≤ 0 := by
    rw [← k1]; exact Int.mul_nonpos_of_nonneg_of_nonpos (by omega) (by omega)
  have u2 : s2 * -δ ≤ 0 := by
    rw [← k2]; exact Int.mul_nonpos_of_nonneg_of_nonpos (by omega) (by omega)
  have hδ : δ = 0 := by
    rcases hs with rfl | rfl
    · have c1 : s1 < 0 := by omega
      have c2 : s2 < 0 := by omega
      rcases Int.lt_trichotomy δ 0 with e | e | e
      · have := Int.mul_pos_of_neg_of_neg c1 e; omega
      · exact e
      · have := Int.mul_pos_of_neg_of_neg c2 (show -δ < 0 by omega); omega
    · have c1 : 0 < s1 := by omega
      have c2 : 0 < s2 := by omega
      rcases Int.lt_trichotomy δ 0 with e | e | e
      · have := Int.mul_pos c2 (show 0 < -δ by omega); omega
      · exact e
      · have := Int.mul_pos c1 e; omega
  rw [hδ, Int.mul_zero] at k1
  have k3 := (Int.mul_eq_zero.1 k1).resolve_left (by omega)
  have z1 : T1 = 0 := by omega
  have z2 : T2 = 0 := by omega
  rw [z1] at hT
  rw [z2] at hT2
  have y1 := (Int.mul_eq_zero.1 hT).resolve_right (by omega)
  have y2 := (Int.mul_eq_zero.1 hT2).resolve_right (by omega)
  refine F_uni h h' (p := v) (q := a) (r := b) ?_ ev ea eb ev' (by omega) (by omega)
  intro e
  have : s1 = 0 := by
    rw [← hs1]
    have : vcr (vsub (P a) (P v)) (vsub (P b) (P v)) = vO := e
    rw [this]; simp [dot, vO]
  rw [this] at sw; omega
theorem ncr_swap (P : Nat → V3) (p q r : Nat) : ncr P p r q = vneg (ncr P p q r) := by
  simp only [ncr, vcr, vsub, vneg, Prod.mk.injEq]; grind
theorem ncr_rot (P : Nat → V3) (p q r : Nat) : ncr P q r p = ncr P p q r := by
  simp only [ncr, vcr, vsub, Prod.mk.injEq]; grind
/-- each face has a middle, and says which turn -/
theorem mid_ex {P : Nat → V3} {m : Nat} {g n : V3} {l : Int} (hg : ∀ j k, j < m → k < m → dot g (P j) = dot g (P k) → j = k) (h : isF P m n l) : ∃ v, v < m ∧ (mid P m g n l 1 v ∨ mid P m g n l (-1) v) ∧ (∃ a, a < m ∧ dot g (P a) < dot g (P v)) ∧ ∃ b, b < m ∧ dot g (P v) < dot g (P b) := by
  obtain ⟨_, _, _, p, q, r, hp, hq, hr, ep, eq, er, hN⟩ := h
  have srt : ∀ p q r, p < m → q < m → r < m → dot n (P p) = l → dot n (P q) = l → dot n (P r) = l → ncr P p q r ≠ vO → dot g (P p) < dot g (P q) → dot g (P q) < dot g (P r) → ∃ v, v < m ∧ (mid P m g n l 1 v ∨ mid P m g n l (-1) v) ∧ (∃ a, a < m ∧ dot g (P a) < dot g (P v)) ∧ ∃ b, b < m ∧ dot g (P v) < dot g (P b) := by
    intro p q r hp hq hr ep eq er hN g1 g2
    refine ⟨q, hq, ?_, ⟨p, hp, g1⟩, r, hr, g2⟩
    have pa := perp_par (n := n) (a := vsub (P q) (P p)) (b := vsub (P r) (P p)) (by rw [dot_sub]; omega) (by rw [dot_sub]; omega)
    have nz : swg P p q r n ≠ 0 := by
      intro e
      rw [swg_ncr] at e
      have hn : n ≠ vO := gcd3_ne ‹_›
      have := par_dot (e := ncr P p q r) hn pa e
      exact hN (dot_self_zero this)
    rcases Int.lt_trichotomy (swg P p q r n) 0 with e | e | e
    · exact Or.inr ⟨eq, p, r, hp, hr, ep, er, g1, g2, by omega⟩
    · exact absurd e nz
    · exact Or.inl ⟨eq, p, r, hp, hr, ep, er, g1, g2, by omega⟩
  have ne : ∀ u : V3, u ≠ vO → vneg u ≠ vO := fun u h e => h (vneg_O.1 e)
  have hpq : p ≠ q := by rintro rfl; exact hN (by simp [ncr, vcr, vsub, vO])
  have hpr : p ≠ r := by rintro rfl; exact hN (by simp [ncr, vcr, vsub, vO])
  have hqr : q ≠ r := by rintro rfl; exact hN (by simp only [ncr]; exact vcr_self _)
  have g1 : dot g (P p) ≠ dot g (P q) := fun e => hpq (hg p q hp hq e)
  have g2 : dot g (P p) ≠ dot g (P r) := fun e => hpr (hg p r hp hr e)
  have g3 : dot g (P q) ≠ dot g (P r) := fun e => hqr (hg q r hq hr e)
  have a1 : ncr P p r q ≠ vO := by rw [ncr_swap]; exact ne _ hN
  have a2 : ncr P q r p ≠ vO := by rw [ncr_rot]; exact hN
  have a3 : ncr P r p q ≠ vO := by rw [ncr_rot P q r p, ncr_rot P p q r]; exact hN
  have a4 : ncr P q p r ≠ vO := by rw [ncr_swap]; exact ne _ a2
  have a5 : ncr P r q p ≠ vO := by rw [ncr_swap]; exact ne _ a3
  by_cases c1 : dot g (P p) < dot g (P q)
  · by_cases c2 : dot g (P q) < dot g (P r)
    · exact srt p q r hp hq hr ep eq er hN c1 c2
    · by_cases c3 : dot g (P p) < dot g (P r)
      · exact srt p r q hp hr hq ep er eq a1 c3 (by omega)
      · exact srt r p q hr hp hq er ep eq a3 (by omega) c1
  · by_cases c2 : dot g (P p) < dot g (P r)
    · exact srt q p r hq hp hr eq ep er a4 (by omega) c2
    · by_cases c3 : dot g (P q) < dot g (P r)
      · exact srt q r p hq hr hp eq er ep a2 c3 (by omega)
      · exact srt r q p hr hq hp er eq ep a5 (by omega) (by omega)
/-- extreme points -/
theorem ex_max (f : Nat → Int) (m : Nat) (hm : 0 < m) : ∃ v, v < m ∧ ∀ k, k < m → f k ≤ f v := by
  induction m with
  | zero => omega
  | succ m ih =>
    by_cases e : m = 0
    · subst e; exact ⟨0, by omega, fun k hk => by rw [show k = 0 by omega]; omega⟩
    · obtain ⟨v, h1, h2⟩ := ih (by omega)
      by_cases c : f m ≤ f v
      · exact ⟨v, by omega, fun k hk => by
          by_cases e : k = m
          · rw [e]; exact c
          · exact h2 k (by omega)⟩
      · exact ⟨m, by omega, fun k hk => by
          by_cases e : k = m
          · rw [e]; omega
          · have := h2 k (by omega); omega⟩
theorem ex_min (f : Nat → Int) (m : Nat) (hm : 0 < m) : ∃ v, v < m ∧ ∀ k, k < m → f v ≤ f k := by
  obtain ⟨v, h1, h2⟩ := ex_max (fun k => - f k) m hm
  exact ⟨v, h1, fun k hk => by have := h2 k hk; omega⟩
/-- m points have at most 2 m - 4 faces -/
theorem F_cap {P : Nat → V3} {m : Nat} {g : V3} (hg : ∀ j k, j < m → k < m → dot g (P j) = dot g (P k) → j = k) (F : Nat) (n : Nat → V3) (l : Nat → Int) (h : ∀ i, i < F → isF P m (n i) (l i)) (hd : ∀ i j, i < F → j < F → n i = n j → i = j) (hF : 0 < F) : F + 4 ≤ 2 * m := by
  have hm : 0 < m := by
    obtain ⟨v, hv, _⟩ := mid_ex hg (h 0 hF); omega
  obtain ⟨hi, hi1, hi2⟩ := ex_max (fun k => dot g (P k)) m hm
  obtain ⟨lo, lo1, lo2⟩ := ex_min (fun k => dot g (P k)) m hm
  have hne : hi ≠ lo := by
    obtain ⟨v, hv, _, ⟨a, ha, ga⟩, b, hb, gb⟩ := mid_ex hg (h 0 hF)
    rintro rfl
    have := hi2 b hb; have := lo2 a ha; omega
  -- each face its own pair of a middle and a turn
  have c1 := ct_rel (p := fun _ => True) (q := fun j => j ≠ 2 * hi ∧ j ≠ 2 * hi + 1 ∧ j ≠ 2 * lo ∧ j ≠ 2 * lo + 1) (N := F) (M := 2 * m)
    (fun i j => mid P m g (n i) (l i) (if j % 2 = 0 then 1 else -1) (j / 2)) (fun i hi' _ => by
      obtain ⟨v, hv, hm', ⟨a, ha, ga⟩, b, hb, gb⟩ := mid_ex hg (h i hi')
      have e1 : v ≠ hi := by rintro rfl; have := hi2 b hb; omega
      have e2 : v ≠ lo := by rintro rfl; have := lo2 a ha; omega
      rcases hm' with hm' | hm'
      · refine ⟨2 * v, by omega, by omega, ?_⟩
        rw [if_pos (by omega), show 2 * v / 2 = v by omega]; exact hm'
      · refine ⟨2 * v + 1, by omega, by omega, ?_⟩
        rw [if_neg (by omega), show (2 * v + 1) / 2 = v by omega]; exact hm')
    (fun i k j hi' hk _ _ hj a b => by
      refine hd i k hi' hk (mid_uni (v := j / 2) (by omega) ?_ (h i hi') (h k hk) a b).1
      split <;> simp)
  rw [ct_all] at c1
  have c2 := ct_pop (q := fun _ => True) (M := 2 * m) (j := 2 * hi) (by omega) trivial
  have c3 := ct_pop (q := fun k => True ∧ k ≠ 2 * hi) (M := 2 * m) (j := 2 * hi + 1) (by omega) ⟨trivial, by omega⟩
  have c4 := ct_pop (q := fun k => (True ∧ k ≠ 2 * hi) ∧ k ≠ 2 * hi + 1) (M := 2 * m) (j := 2 * lo) (by omega) ⟨⟨trivial, by omega⟩, by omega⟩
  have c5 := ct_pop (q := fun k => ((True ∧ k ≠ 2 * hi) ∧ k ≠ 2 * hi + 1) ∧ k ≠ 2 * lo) (M := 2 * m) (j := 2 * lo + 1) (by omega) ⟨⟨⟨trivial, by omega⟩, by omega⟩, by omega⟩
  rw [ct_all] at c2
  have c6 := ct_congr (N := 2 * m) (p := fun j => j ≠ 2 * hi ∧ j ≠ 2 * hi + 1 ∧ j ≠ 2 * lo ∧ j ≠ 2 * lo + 1) (q := fun k => (((True ∧ k ≠ 2 * hi) ∧ k ≠ 2 * hi + 1) ∧ k ≠ 2 * lo) ∧ k ≠ 2 * lo + 1) (fun k _ => by
    constructor
    · rintro ⟨a, b, c, d⟩; exact ⟨⟨⟨⟨trivial, a⟩, b⟩, c⟩, d⟩
    · rintro ⟨⟨⟨⟨_, a⟩, b⟩, c⟩, d⟩; exact ⟨a, b, c, d⟩)
  omega
def gV : V3 := (1681, 41, 1)
theorem gV_inj {P : Nat → V3} {m : Nat} (hb : ∀ j, j < m → vbd 20 (P j)) (hd : Dis P m) : ∀ j k, j < m → k < m → dot gV (P j) = dot gV (P k) → j = k := by
  intro j k hj hk e
  have a := hb j hj; have b := hb k hk
  simp only [vbd] at a b
  simp only [dot, gV] at e
  exact hd j k hj hk (v3ext (by omega) (by omega) (by omega))
