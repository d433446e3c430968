def suF (d u : V3) : Int := if d.1 ≠ 0 then d.1 * u.2.1 - d.2.1 * u.1 else if d.2.1 ≠ 0 then d.2.1 * u.1 else d.2.2 * u.1
def svF (d u : V3) : Int := if d.1 ≠ 0 then d.1 * u.2.2 - d.2.2 * u.1 else if d.2.1 ≠ 0 then d.2.1 * u.2.2 - d.2.2 * u.2.1 else d.2.2 * u.2.1
def sdF (su sv : Nat → Int) (p q r : Nat) : Int := (su q - su p) * (sv r - sv p) - (sv q - sv p) * (su r - su p)
def smF (su sv : Nat → Int) (p q : Nat) : Prop := su p = su q ∧ sv p = sv q
def bwF (su sv : Nat → Int) (p q r : Nat) : Prop := sdF su sv p q r = 0 ∧ (su q - su p) * (su r - su p) + (sv q - sv p) * (sv r - sv p) < 0
def trF (su sv : Nat → Int) (p q r s : Nat) : Prop := sdF su sv q r s ≠ 0 ∧ ((0 ≤ sdF su sv q r p ∧ 0 ≤ sdF su sv r s p ∧ 0 ≤ sdF su sv s q p) ∨ (sdF su sv q r p ≤ 0 ∧ sdF su sv r s p ≤ 0 ∧ sdF su sv s q p ≤ 0))
/-- what the model sees -/
theorem sd_swg (P : Nat → V3) {d : V3} (hd : d ≠ vO) : ∃ κ : Int, κ ≠ 0 ∧ ∀ p q r, sdF (fun k => suF d (P k)) (fun k => svF d (P k)) p q r = κ * swg P p q r d := by
  by_cases h1 : d.1 ≠ 0
  · refine ⟨d.1, h1, fun p q r => ?_⟩
    simp only [sdF, suF, svF]
    rw [if_pos h1, if_pos h1, if_pos h1, if_pos h1, if_pos h1, if_pos h1]
    simp only [swg, dot, vcr, vsub]; grind
  · by_cases h2 : d.2.1 ≠ 0
    · refine ⟨-d.2.1, by omega, fun p q r => ?_⟩
      have e : d.1 = 0 := by omega
      simp only [sdF, suF, svF]
      rw [if_neg h1, if_neg h1, if_neg h1, if_neg h1, if_neg h1, if_neg h1, if_pos h2, if_pos h2, if_pos h2, if_pos h2, if_pos h2, if_pos h2]
      simp only [swg, dot, vcr, vsub]; rw [e]; grind
    · have e : d.1 = 0 := by omega
      have e2 : d.2.1 = 0 := by omega
      have h3 : d.2.2 ≠ 0 := fun e3 => hd ((vO_iff d).2 ⟨e, e2, e3⟩)
      refine ⟨d.2.2, h3, fun p q r => ?_⟩
      simp only [sdF, suF, svF]
      rw [if_neg h1, if_neg h1, if_neg h1, if_neg h1, if_neg h1, if_neg h1, if_neg h2, if_neg h2, if_neg h2, if_neg h2, if_neg h2, if_neg h2]
      simp only [swg, dot, vcr, vsub]; rw [e, e2]; grind
theorem su_fun (P : Nat → V3) {d : V3} (hd : d ≠ vO) (c : V3) (hc : dot c d = 0) : ∃ κ α β : Int, κ ≠ 0 ∧ ∀ p q, κ * (dot c (P q) - dot c (P p)) = α * (suF d (P q) - suF d (P p)) + β * (svF d (P q) - svF d (P p)) := by
  simp only [dot] at hc
  by_cases h1 : d.1 ≠ 0
  · refine ⟨d.1, c.2.1, c.2.2, h1, fun p q => ?_⟩
    simp only [suF, svF]
    rw [if_pos h1, if_pos h1, if_pos h1, if_pos h1]
    simp only [dot]; grind
  · have e : d.1 = 0 := by omega
    by_cases h2 : d.2.1 ≠ 0
    · refine ⟨d.2.1, c.1, c.2.2, h2, fun p q => ?_⟩
      simp only [suF, svF]
      rw [if_neg h1, if_neg h1, if_neg h1, if_neg h1, if_pos h2, if_pos h2, if_pos h2, if_pos h2]
      rw [e] at hc
      simp only [dot]; grind
    · have e2 : d.2.1 = 0 := by omega
      have h3 : d.2.2 ≠ 0 := fun e3 => hd ((vO_iff d).2 ⟨e, e2, e3⟩)
      refine ⟨d.2.2, c.1, c.2.1, h3, fun p q => ?_⟩
      simp only [suF, svF]
      rw [if_neg h1, if_neg h1, if_neg h1, if_neg h1, if_neg h2, if_neg h2, if_neg h2, if_neg h2]
      rw [e, e2] at hc
      have c3 : c.2.2 = 0 := by
        have : c.2.2 * d.2.2 = 0 := by omega
        exact (Int.mul_eq_zero.1 this).resolve_right h3
      simp only [dot]; rw [c3]; grind
theorem sm_sam (P : Nat → V3) {d : V3} (hd : d ≠ vO) (p q : Nat) : smF (fun k => suF d (P k)) (fun k => svF d (P k)) p q ↔ sam P d p q := by
  constructor
  · rintro ⟨h1, h2⟩
    apply sam_mk
    -- all functionals across d agree
    have key : ∀ c, dot c d = 0 → dot c (vsub (P q) (P p)) = 0 := by
      intro c hc
      obtain ⟨κ, α, β, k0, hk⟩ := su_fun P hd c hc
      have := hk p q
      simp only at h1 h2
      rw [h1, h2, Int.sub_self, Int.sub_self, Int.mul_zero, Int.mul_zero, Int.add_zero] at this
      rw [dot_sub]
      exact (Int.mul_eq_zero.1 this).resolve_left k0
    have a := key (0, d.2.2, -d.2.1) (by simp only [dot]; grind)
    have b := key (-d.2.2, 0, d.1) (by simp only [dot]; grind)
    have c := key (d.2.1, -d.1, 0) (by simp only [dot]; grind)
    rw [vO_iff]
    simp only [dot, vcr] at a b c ⊢
    refine ⟨by grind, by grind, by grind⟩
  · intro h
    have a := fun c (hc : dot c d = 0) => sam_dot hd hc h
    constructor
    · simp only [suF]
      split
      · have := a (-d.2.1, d.1, 0) (by simp only [dot]; grind)
        simp only [dot] at this; grind
      · rename_i h1
        have e : d.1 = 0 := by omega
        split
        · have := a (d.2.1, 0, 0) (by simp only [dot]; rw [e]; grind)
          simp only [dot] at this; grind
        · rename_i h2
          have e2 : d.2.1 = 0 := by omega
          have := a (d.2.2, 0, 0) (by simp only [dot]; rw [e]; grind)
          simp only [dot] at this; grind
    · simp only [svF]
      split
      · have := a (-d.2.2, 0, d.1) (by simp only [dot]; grind)
        simp only [dot] at this; grind
      · rename_i h1
        have e : d.1 = 0 := by omega
        split
        · have := a (0, -d.2.2, d.2.1) (by simp only [dot]; rw [e]; grind)
          simp only [dot] at this; grind
        · rename_i h2
          have e2 : d.2.1 = 0 := by omega
          have := a (0, d.2.2, 0) (by simp only [dot]; rw [e, e2]; grind)
          simp only [dot] at this; grind
theorem expo_bw {P : Nat → V3} {A : Nat → Prop} {d : V3} (hd : d ≠ vO) {p q r : Nat} (hp : expo P A d p) (hq : A q) (hr : A r) (nq : ¬ sam P d p q) (nr : ¬ sam P d p r) : ¬ bwF (fun k => suF d (P k)) (fun k => svF d (P k)) p q r := by
  rintro ⟨h0, h1⟩
  obtain ⟨_, c, c1, c2⟩ := hp
  have x := (c2 q hq).resolve_left nq
  have y := (c2 r hr).resolve_left nr
  obtain ⟨κ, α, β, k0, hk⟩ := su_fun P hd c c1
  have e1 := hk p q
  have e2 := hk p r
  simp only [sdF] at h0
  simp only at h1
  generalize suF d (P q) - suF d (P p) = u1 at *
  generalize svF d (P q) - svF d (P p) = v1 at *
  generalize suF d (P r) - suF d (P p) = u2 at *
  generalize svF d (P r) - svF d (P p) = v2 at *
  have i : (u2 * u2 + v2 * v2) * (α * u1 + β * v1) = (u1 * u2 + v1 * v2) * (α * u2 + β * v2) := by grind
  rw [← e1, ← e2] at i
  have i2 : κ * ((u2 * u2 + v2 * v2) * (dot c (P q) - dot c (P p))) = κ * ((u1 * u2 + v1 * v2) * (dot c (P r) - dot c (P p))) := by grind
  have i3 := Int.eq_of_mul_eq_mul_left k0 i2
  have t1 := Int.mul_pos_of_neg_of_neg h1 (show dot c (P r) - dot c (P p) < 0 by omega)
  have s1 := sq_nonneg' u2
  have s2 := sq_nonneg' v2
  have t2 := Int.mul_nonpos_of_nonneg_of_nonpos (show 0 ≤ u2 * u2 + v2 * v2 by omega) (show dot c (P q) - dot c (P p) ≤ 0 by omega)
  omega
/-- in a triangle, by turns -/
def inT (P : Nat → V3) (d : V3) (p q r s : Nat) : Prop := swg P q r s d ≠ 0 ∧ ((0 ≤ swg P q r p d ∧ 0 ≤ swg P r s p d ∧ 0 ≤ swg P s q p d) ∨ (swg P q r p d ≤ 0 ∧ swg P r s p d ≤ 0 ∧ swg P s q p d ≤ 0))
theorem inT_rot {P : Nat → V3} {d : V3} {p q r s : Nat} (h : inT P d p q r s) : inT P d p r s q := by
  obtain ⟨a, b⟩ := h
  refine ⟨by rw [swg_rot]; exact a, ?_⟩
  rcases b with b | b
  · exact Or.inl ⟨b.2.1, b.2.2, b.1⟩
  · exact Or.inr ⟨b.2.1, b.2.2, b.1⟩
theorem inT_sw {P : Nat → V3} {d : V3} {p q r s : Nat} (h : inT P d p q r s) : inT P d p r q s := by
  obtain ⟨a, b⟩ := h
  refine ⟨by rw [swg_sw]; omega, ?_⟩
  rw [swg_sw P q r p, swg_sw P s q p, swg_sw P r s p]
  rcases b with b | b
  · exact Or.inr ⟨by omega, by omega, by omega⟩
  · exact Or.inl ⟨by omega, by omega, by omega⟩
theorem tr_inT (P : Nat → V3) {d : V3} (hd : d ≠ vO) (p q r s : Nat) : trF (fun k => suF d (P k)) (fun k => svF d (P k)) p q r s ↔ inT P d p q r s := by
  obtain ⟨κ, k0, hk⟩ := sd_swg P hd
  simp only [trF, inT, hk]
  have z : ∀ x : Int, κ * x ≠ 0 ↔ x ≠ 0 := by
    intro x
    constructor
    · intro h e; rw [e] at h; exact h (Int.mul_zero _)
    · intro h e; exact h ((Int.mul_eq_zero.1 e).resolve_left k0)
  rcases Int.lt_or_le 0 κ with u | u
  · have a : ∀ x : Int, 0 ≤ κ * x ↔ 0 ≤ x := fun x => ⟨fun h => Int.nonneg_of_mul_nonneg_right h u, fun h => Int.mul_nonneg (by omega) h⟩
    have b : ∀ x : Int, κ * x ≤ 0 ↔ x ≤ 0 := by
      intro x
      have := a (-x)
      rw [Int.mul_neg] at this
      omega
    simp only [z, a, b]
  · have u' : κ < 0 := by omega
    have a : ∀ x : Int, 0 ≤ κ * x ↔ x ≤ 0 := by
      intro x
      constructor
      · intro h
        rcases Int.lt_or_le 0 x with v | v
        · have := Int.mul_neg_of_neg_of_pos u' v; omega
        · exact v
      · intro h; exact Int.mul_nonneg_of_nonpos_of_nonpos (by omega) h
    have b : ∀ x : Int, κ * x ≤ 0 ↔ 0 ≤ x := by
      intro x
      have := a (-x)
      rw [Int.mul_neg] at this
      omega
    simp only [z, a, b]
    constructor
    · rintro ⟨x, y⟩; exact ⟨x, y.symm⟩
    · rintro ⟨x, y⟩; exact ⟨x, y.symm⟩
theorem expo_tr {P : Nat → V3} {A : Nat → Prop} {d : V3} {p q r s : Nat} (hp : expo P A d p) (hq : A q) (hr : A r) (hs : A s) (nq : ¬ sam P d p q) (nr : ¬ sam P d p r) (ns : ¬ sam P d p s) : ¬ inT P d p q r s := by
  rintro ⟨h0, h1⟩
  obtain ⟨_, c, c1, c2⟩ := hp
  have x := (c2 q hq).resolve_left nq
  have y := (c2 r hr).resolve_left nr
  have w := (c2 s hs).resolve_left ns
  have pl := pl1 P c1 p q r s
  have e1 : swg P p q r d = swg P q r p d := (swg_rot ..).symm
  have e2 : swg P p s r d = - swg P r s p d := by rw [swg_anti, swg_rot P p r s]
  have e3 : swg P p q s d = - swg P s q p d := by rw [swg_anti P p s q, swg_rot P p s q]
  rw [e1, e2, e3] at pl
  have area : swg P q r s d = swg P q r p d + swg P r s p d + swg P s q p d := by
    simp only [swg, dot, vcr, vsub]; grind
  have pl' : swg P q r p d * (dot c (P s) - dot c (P p)) + swg P r s p d * (dot c (P q) - dot c (P p)) + swg P s q p d * (dot c (P r) - dot c (P p)) = 0 := by grind
  have lem : ∀ a b c' x y w : Int, 0 ≤ a → 0 ≤ b → 0 ≤ c' → x < 0 → y < 0 → w < 0 → a * w + b * x + c' * y = 0 → a + b + c' = 0 := by
    intro a b c' x y w ha hb hc hx hy hw e
    have t1 := Int.mul_nonpos_of_nonneg_of_nonpos ha (Int.le_of_lt hw)
    have t2 := Int.mul_nonpos_of_nonneg_of_nonpos hb (Int.le_of_lt hx)
    have t3 := Int.mul_nonpos_of_nonneg_of_nonpos hc (Int.le_of_lt hy)
    have u1 := (Int.mul_eq_zero.1 (show a * w = 0 by omega)).resolve_right (by omega)
    have u2 := (Int.mul_eq_zero.1 (show b * x = 0 by omega)).resolve_right (by omega)
    have u3 := (Int.mul_eq_zero.1 (show c' * y = 0 by omega)).resolve_right (by omega)
    omega
  rcases h1 with ⟨a, b, e⟩ | ⟨a, b, e⟩
  · have := lem _ _ _ (dot c (P q) - dot c (P p)) (dot c (P r) - dot c (P p)) (dot c (P s) - dot c (P p)) a b e (by omega) (by omega) (by omega) pl'
    omega
  · have := lem (- swg P q r p d) (- swg P r s p d) (- swg P s q p d) (dot c (P q) - dot c (P p)) (dot c (P r) - dot c (P p)) (dot c (P s) - dot c (P p)) (by omega) (by omega) (by omega) (by omega) (by omega) (by omega) (by grind)
    omega
theorem expo_sam {P : Nat → V3} {A : Nat → Prop} {d : V3} (hd : d ≠ vO) {p q : Nat} (hp : expo P A d p) (hq : A q) (h : sam P d p q) : expo P A d q := by
  obtain ⟨_, c, c1, c2⟩ := hp
  refine ⟨hq, c, c1, fun k hk => ?_⟩
  rcases c2 k hk with u | u
  · exact Or.inl (sam_trans (sam_symm h) u)
  · right; rw [← sam_dot hd c1 h]; exact u
/-- what is no corner of what is seen lies in a triangle of such -/
theorem in_tri {P : Nat → V3} {A : Nat → Prop} {d : V3} {N : Nat} (hA : ∀ k, A k → k < N) (hd : d ≠ vO) (hn : ∃ x y z, A x ∧ A y ∧ A z ∧ swg P x y z d ≠ 0) (fl : Nat → Nat) (hf : ∀ p, expo P A d p → nxt P A d p (fl p)) (st : Nat) (hst : expo P A d st) {p : Nat} (hp : A p) (hx : ¬ expo P A d p) :
    ∃ q r s, A q ∧ A r ∧ A s ∧ ¬ sam P d p q ∧ ¬ sam P d p r ∧ ¬ sam P d p s ∧ inT P d p q r s := by
  obtain ⟨L, l3, lN, ex, hL, hm, inj, cov⟩ := cyc hA hd hn fl hf st hst
  have ns : ∀ k, ¬ sam P d p (itr fl st k) := fun k e => hx (expo_sam hd (ex k) hp (sam_symm e))
  have edge : ∀ k, 0 ≤ swg P (itr fl st k) (itr fl st (k + 1)) p d := fun k => nxt_ge hd (hf _ (ex k)) p hp
  -- the first spoke beyond p
  have hlast : swg P (itr fl st 0) (itr fl st (L - 1)) p d ≤ 0 := by
    have a := edge (L - 1)
    rw [show L - 1 + 1 = L by omega, ← swg_sam2 hd hL, swg_sw] at a
    exact (show swg P st (itr fl st (L - 1)) p d ≤ 0 by omega)
  have hfirst : ∃ i, 2 ≤ i ∧ i ≤ L - 1 ∧ swg P (itr fl st 0) (itr fl st i) p d ≤ 0 ∧ 0 ≤ swg P (itr fl st 0) (itr fl st (i - 1)) p d := by
    have key : ∀ j, 1 + j ≤ L - 1 → 0 ≤ swg P (itr fl st 0) (itr fl st (1 + j)) p d ∨ ∃ i, 2 ≤ i ∧ i ≤ L - 1 ∧ swg P (itr fl st 0) (itr fl st i) p d ≤ 0 ∧ 0 ≤ swg P (itr fl st 0) (itr fl st (i - 1)) p d := by
      intro j
      induction j with
      | zero => intro _; exact Or.inl (edge 0)
      | succ j ih =>
        intro hj
        rcases ih (by omega) with h | h
        · rcases Int.lt_or_le 0 (swg P (itr fl st 0) (itr fl st (1 + (j + 1))) p d) with u | u
          · exact Or.inl (by omega)
          · exact Or.inr ⟨1 + (j + 1), by omega, hj, u, by rw [show 1 + (j + 1) - 1 = 1 + j by omega]; exact h⟩
        · exact Or.inr h
    rcases key (L - 2) (by omega) with h | h
    · rcases key (L - 3) (by omega) with h' | h'
      · refine ⟨L - 1, by omega, by omega, hlast, ?_⟩
        rw [show L - 1 - 1 = 1 + (L - 3) by omega]; exact h'
      · exact h'
    · exact h
  obtain ⟨i, i1, i2, i3, i4⟩ := hfirst
  refine ⟨itr fl st 0, itr fl st (i - 1), itr fl st i, (ex 0).1, (ex (i - 1)).1, (ex i).1, ns 0, ns (i - 1), ns i, ?_, Or.inl ⟨i4, ?_, ?_⟩⟩
  · have hne : ∀ a b, a < L → b < L → a ≠ b → ¬ sam P d (itr fl st a) (itr fl st b) := fun a b ha hb hab e => hab (inj a b ha hb e)
    have nx := hf _ (ex (i - 1))
    have e : fl (itr fl st (i - 1)) = itr fl st i := by
      obtain ⟨j, rfl⟩ : ∃ j, i = j + 1 := ⟨i - 1, by omega⟩
      rfl
    rw [e] at nx
    have := nxt_strict hd (ex (i - 1)) (ex 0) nx (hne _ _ (by omega) (by omega) (by omega)) (hne _ _ (by omega) (by omega) (by omega))
    rw [swg_rot] at this
    omega
  · have := edge (i - 1)
    rw [show i - 1 + 1 = i by omega] at this; exact this
  · rw [swg_sw]; omega
/-- the model's test -/
def stF (su sv : Nat → Int) (C : Nat → Prop) (m p : Nat) : Prop :=
  ∀ q, q < m → C q → q ≠ p → (smF su sv p q → ¬ q < p) ∧ (¬ smF su sv p q → ∀ r, r < q → C r → r ≠ p → ¬ smF su sv p r → ¬ bwF su sv p q r ∧ ∀ s, s < r → C s → s ≠ p → ¬ smF su sv p s → ¬ trF su sv p q r s)
theorem sol_sw {P : Nat → V3} {m : Nat} (hm : m ≤ 14) (hD : Dis P m) (hs : Sol P m) {d : V3} (hd : d ≠ vO) : ∃ x y z, isCor P m x ∧ isCor P m y ∧ isCor P m z ∧ swg P x y z d ≠ 0 := by
  apply Classical.byContradiction
  intro h
  have h0 : ∀ x y z, isCor P m x → isCor P m y → isCor P m z → swg P x y z d = 0 := fun x y z hx hy hz => Classical.byContradiction fun e => h ⟨x, y, z, hx, hy, hz, e⟩
  obtain ⟨x, hx, _⟩ := max_cor hm hD hs d
  -- a corner that is seen elsewhere
  have hex : ∃ y, isCor P m y ∧ ¬ sam P d x y := by
    apply Classical.byContradiction
    intro hno
    have hno' : ∀ y, isCor P m y → sam P d x y := fun y hy => Classical.byContradiction fun e => hno ⟨y, hy, e⟩
    obtain ⟨e, e0, e1⟩ := ex_perp hd
    obtain ⟨u, hu, u2⟩ := max_cor hm hD hs e
    obtain ⟨w, hw, w2⟩ := max_cor hm hD hs (vneg e)
    have a := sam_dot hd (c := e) (by rw [dot_comm]; exact e1) (hno' u hu)
    have b := sam_dot hd (c := e) (by rw [dot_comm]; exact e1) (hno' w hw)
    obtain ⟨k, k1, k2⟩ := sol_np hs e0 (dot e (P x))
    have p := u2 k k1; have q := w2 k k1
    rw [dot_neg, dot_neg] at q
    omega
  obtain ⟨y, hy, nxy⟩ := hex
  have E0 : vcr d (vsub (P y) (P x)) ≠ vO := fun e => nxy (sam_mk (vcr_O.1 e))
  obtain ⟨u, hu, u2⟩ := max_cor hm hD hs (vcr d (vsub (P y) (P x)))
  obtain ⟨w, hw, w2⟩ := max_cor hm hD hs (vneg (vcr d (vsub (P y) (P x))))
  have a := h0 x y u hx hy hu
  have b := h0 x y w hx hy hw
  rw [swg_fun] at a b
  obtain ⟨k, k1, k2⟩ := sol_np hs E0 (dot (vcr d (vsub (P y) (P x))) (P x))
  have p := u2 k k1; have q := w2 k k1
  rw [dot_neg, dot_neg] at q
  omega
theorem stF_iff {P : Nat → V3} {m S : Nat} (hm : m ≤ 14) (hD : Dis P m) (hs : Sol P m) (hS : ∀ k, S.testBit k = true ↔ isCor P m k) {d : V3} (hd : d ≠ vO) {p : Nat} (hp : isCor P m p) : stF (fun k => suF d (P k)) (fun k => svF d (P k)) (isCor P m) m p ↔ expo P (isCor P m) d p ∧ ∀ q, q < p → isCor P m q → ¬ sam P d p q := by
  have eA : bA2 S = isCor P m := by
    funext k; apply propext
    exact ⟨fun h => (hS k).1 h.2, fun h => ⟨by have := h.1; omega, (hS k).2 h⟩⟩
  have hn := sol_sw hm hD hs hd
  have hf : ∀ p, expo P (isCor P m) d p → nxt P (isCor P m) d p (flF P d S p) := by
    intro p hp
    have := flF_spec (P := P) (S := S) hd (by rw [eA]; exact hn) (p := p) (by rw [eA]; exact hp)
    rw [eA] at this; exact this
  have hst : expo P (isCor P m) d (rmF P d S) := by
    have := rmF_expo (P := P) (S := S) (d := d) (j := p) (by rw [eA]; exact hp)
    rw [eA] at this; exact this
  constructor
  · intro h
    refine ⟨?_, fun q hq cq e => ?_⟩
    · apply Classical.byContradiction
      intro hx
      obtain ⟨q, r, s, hq, hr, hs', nq, nr, ns, ht⟩ := in_tri (N := m) (fun k (hk : isCor P m k) => hk.1) hd hn (flF P d S) hf (rmF P d S) hst hp hx
      have ne : ∀ {x}, ¬ sam P d p x → x ≠ p := fun hx e => hx (by rw [e]; exact sam_refl ..)
      have one : ∀ q r s, isCor P m q → isCor P m r → isCor P m s → ¬ sam P d p q → ¬ sam P d p r → ¬ sam P d p s → inT P d p q r s → r < q → s < r → False := by
        intro q r s hq hr hs' nq nr ns ht h1 h2
        have a := (h q hq.1 hq (ne nq)).2 (fun e => nq ((sm_sam P hd p q).1 e)) r h1 hr (ne nr) (fun e => nr ((sm_sam P hd p r).1 e))
        exact a.2 s h2 hs' (ne ns) (fun e => ns ((sm_sam P hd p s).1 e)) ((tr_inT P hd p q r s).2 ht)
      have d1 : q ≠ r := by rintro rfl; exact ht.1 (swg_pq ..)
      have d2 : r ≠ s := by rintro rfl; exact ht.1 (swg_pp ..)
      have d3 : q ≠ s := by rintro rfl; exact ht.1 (swg_qp ..)
      by_cases c1 : r < q
      · by_cases c2 : s < r
        · exact one q r s hq hr hs' nq nr ns ht c1 c2
        · by_cases c3 : s < q
          · exact one q s r hq hs' hr nq ns nr (inT_sw (inT_rot (inT_rot ht))) c3 (by omega)
          · exact one s q r hs' hq hr ns nq nr (inT_rot (inT_rot ht)) (by omega) c1
      · by_cases c2 : s < q
        · exact one r q s hr hq hs' nr nq ns (inT_sw ht) (by omega) c2
        · by_cases c3 : s < r
          · exact one r s q hr hs' hq nr ns nq (inT_rot ht) c3 (by omega)
          · exact one s r q hs' hr hq ns nr nq (inT_sw (inT_rot ht)) (by omega) (by omega)
    · exact (h q (by have := hp.1; omega) cq (by omega)).1 ((sm_sam P hd p q).2 e) hq
  · rintro ⟨hx, hl⟩ q hq cq hqp
    refine ⟨fun e h => hl q h cq ((sm_sam P hd p q).1 e), fun nq r hr cr hrp nr => ⟨expo_bw hd hx cq cr (fun e => nq ((sm_sam P hd p q).2 e)) (fun e => nr ((sm_sam P hd p r).2 e)), fun s hs' cs hsp ns ht => ?_⟩⟩
    exact expo_tr hx cq cr cs (fun e => nq ((sm_sam P hd p q).2 e)) (fun e => nr ((sm_sam P hd p r).2 e)) (fun e => ns ((sm_sam P hd p s).2 e)) ((tr_inT P hd p q r s).1 ht)
/-- the class's shadow has as many corners as pass the model's test -/
theorem shN_spec {P : Nat → V3} {m S : Nat} (hm : m ≤ 14) (hD : Dis P m) (hs : Sol P m) (hS : ∀ k, S.testBit k = true ↔ isCor P m k) {d : V3} (hd : d ≠ vO) (row : Nat → Nat) : (trN P d S (rmF P d S) 14 0 (rmF P d S) row 0).2.2 = ct (fun p => isCor P m p ∧ stF (fun k => suF d (P k)) (fun k => svF d (P k)) (isCor P m) m p) m := by
  have eA : bA2 S = isCor P m := by
    funext k; apply propext
    exact ⟨fun h => (hS k).1 h.2, fun h => ⟨by have := h.1; omega, (hS k).2 h⟩⟩
  have hn := sol_sw hm hD hs hd
  obtain ⟨p0, _, _, hp0, _⟩ := id hn
  have hf : ∀ p, expo P (isCor P m) d p → nxt P (isCor P m) d p (flF P d S p) := by
    intro p hp
    have := flF_spec (P := P) (S := S) hd (by rw [eA]; exact hn) (p := p) (by rw [eA]; exact hp)
    rw [eA] at this; exact this
  have hst : expo P (isCor P m) d (rmF P d S) := by
    have := rmF_expo (P := P) (S := S) (d := d) (j := p0) (by rw [eA]; exact hp0)
    rw [eA] at this; exact this
  obtain ⟨L, l3, lN, ex, hL, hm', inj, cov⟩ := cyc (N := m) (fun k (hk : isCor P m k) => hk.1) hd hn (flF P d S) hf _ hst
  obtain ⟨t1, _, _⟩ := trN_spec hL hm' 14 0 row 0 (by omega) (by omega) (fun j hj => by omega) (fun x => by simp)
  have t1' : (trN P d S (rmF P d S) 14 0 (rmF P d S) row 0).2.2 = L := t1
  rw [t1']
  have := ct_bij (p := fun _ => True) (q := fun p => isCor P m p ∧ stF (fun k => suF d (P k)) (fun k => svF d (P k)) (isCor P m) m p) (N := L) (M := m) (fun k p => sam P d (itr (flF P d S) (rmF P d S) k) p)
    (fun k hk _ => by
      -- the least of those that seem one with it
      have least : ∀ x, isCor P m x → sam P d (itr (flF P d S) (rmF P d S) k) x → ∃ y, isCor P m y ∧ sam P d (itr (flF P d S) (rmF P d S) k) y ∧ ∀ q, q < y → isCor P m q → ¬ sam P d y q := by
        intro x
        induction x using Nat.strongRecOn with
        | ind x ih =>
          intro cx sx
          by_cases h : ∃ q, q < x ∧ isCor P m q ∧ sam P d x q
          · obtain ⟨q, q1, q2, q3⟩ := h
            exact ih q q1 q2 (sam_trans sx q3)
          · exact ⟨x, cx, sx, fun q q1 q2 q3 => h ⟨q, q1, q2, q3⟩⟩
      obtain ⟨y, y1, y2, y3⟩ := least _ (ex k).1 (sam_refl ..)
      exact ⟨y, y1.1, ⟨y1, (stF_iff hm hD hs hS hd y1).2 ⟨expo_sam hd (ex k) y1 y2, y3⟩⟩, y2⟩)
    (fun p hp h => by
      obtain ⟨k, k1, k2⟩ := cov p ((stF_iff hm hD hs hS hd h.1).1 h.2).1
      exact ⟨k, k1, trivial, k2⟩)
    (fun i k p hi hk _ _ _ a b => inj i k hi hk (sam_trans a (sam_symm b)))
    (fun k p q hk hp hq h h' a b => by
      have l1 := ((stF_iff hm hD hs hS hd h.1).1 h.2).2
      have l2 := ((stF_iff hm hD hs hS hd h'.1).1 h'.2).2
      have e := sam_trans (sam_symm a) b
      rcases Nat.lt_trichotomy p q with u | u | u
      · exact absurd (sam_symm e) (l2 p u h.1)
      · exact u
      · exact absurd e (l1 q u h'.1))
  rw [ct_all] at this
  exact this
