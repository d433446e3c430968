theorem bts_spec (p : Nat → Bool) : ∀ (N k : Nat), (bts p N).testBit k = true ↔ k < N ∧ p k = true
  | 0, k => by simp [bts]
  | N + 1, k => by
    simp only [bts]
    rw [Nat.testBit_or, Bool.or_eq_true, bts_spec p N k]
    by_cases h : p N = true
    · rw [if_pos h, Nat.testBit_two_pow, decide_eq_true_eq]
      constructor
      · rintro (⟨a, b⟩ | e)
        · exact ⟨by omega, b⟩
        · subst e; exact ⟨by omega, h⟩
      · rintro ⟨a, b⟩
        by_cases e : N = k
        · exact Or.inr e
        · exact Or.inl ⟨by omega, b⟩
    · rw [if_neg h]
      simp only [Nat.zero_testBit, Bool.false_eq_true, or_false]
      constructor
      · rintro ⟨a, b⟩; exact ⟨by omega, b⟩
      · rintro ⟨a, b⟩
        by_cases e : k = N
        · subst e; exact absurd b h
        · exact ⟨by omega, b⟩
theorem anB_spec (p : Nat → Bool) : ∀ (N : Nat), anB p N = true ↔ ∃ k, k < N ∧ p k = true
  | 0 => by
    simp only [anB]
    constructor
    · intro h; cases h
    · rintro ⟨k, a, _⟩; omega
  | N + 1 => by
    simp only [anB]
    rw [Bool.or_eq_true, anB_spec p N]
    constructor
    · rintro (⟨k, a, b⟩ | h)
      · exact ⟨k, by omega, b⟩
      · exact ⟨N, by omega, h⟩
    · rintro ⟨k, a, b⟩
      by_cases e : k = N
      · subst e; exact Or.inr b
      · exact Or.inl ⟨k, by omega, b⟩
theorem crs_ncr (P : Nat → V3) (p q r : Nat) : crs P p q r = ncr P p q r := rfl
/-- the model's list of faces -/
def mL (P : Nat → V3) (m : Nat) (s : S5) : Prop :=
  s.2.1 ≤ 24 ∧ (∀ f, f < s.2.1 → isF P m (s.2.2.2.1 f) (s.2.2.2.2 f) ∧ ∀ k, (s.2.2.1 f).testBit k = true ↔ fA P m (s.2.2.2.1 f) (s.2.2.2.2 f) k) ∧ ∀ f g, f < s.2.1 → g < s.2.1 → s.2.2.2.1 f = s.2.2.2.1 g → f = g
def inM (s : S5) (n : V3) (l : Int) : Prop := ∃ f, f < s.2.1 ∧ s.2.2.2.1 f = n ∧ s.2.2.2.2 f = l
theorem isF_lev {P : Nat → V3} {m : Nat} {n : V3} {l l' : Int} (h : isF P m n l) (h' : isF P m n l') : l = l' := by
  obtain ⟨_, s1, _, p1, _, _, a1, _, _, b1, _⟩ := h
  obtain ⟨_, s2, _, p2, _, _, a2, _, _, b2, _⟩ := h'
  have := s1 p2 a2; have := s2 p1 a1; omega
theorem tpU_spec {P : Nat → V3} {m p q r : Nat} : tpU P m p q r m = true ↔ ∃ k, k < m ∧ dot (ncr P p q r) (P p) < dot (ncr P p q r) (P k) := by
  simp only [tpU]; rw [anB_spec]; simp only [decide_eq_true_eq]; exact Iff.rfl
theorem tpD_spec {P : Nat → V3} {m p q r : Nat} : tpD P m p q r m = true ↔ ∃ k, k < m ∧ dot (ncr P p q r) (P k) < dot (ncr P p q r) (P p) := by
  simp only [tpD]; rw [anB_spec]; simp only [decide_eq_true_eq]; exact Iff.rfl
theorem tpB_spec {P : Nat → V3} {m p q r : Nat} (k : Nat) : (tpB P m p q r m).testBit k = true ↔ k < m ∧ dot (ncr P p q r) (P k) = dot (ncr P p q r) (P p) := by
  simp only [tpB]; rw [bts_spec]; simp only [decide_eq_true_eq]; exact Iff.rfl
/-- the new face's normal and level, in the model's words -/
def tpn (P : Nat → V3) (m p q r : Nat) : V3 := ((crs P p q r).1.tdiv (tpY P m p q r), (crs P p q r).2.1.tdiv (tpY P m p q r), (crs P p q r).2.2.tdiv (tpY P m p q r))
def tpl (P : Nat → V3) (m p q r : Nat) : Int := (dot (crs P p q r) (P p)).tdiv (tpY P m p q r)
theorem tp_face {P : Nat → V3} {m p q r : Nat} (hp : p < m) (hq : q < m) (hr : r < m) (hN : ncr P p q r ≠ vO) (hUD : tpU P m p q r m ≠ tpD P m p q r m) :
    isF P m (tpn P m p q r) (tpl P m p q r) ∧ (∀ k, (tpB P m p q r m).testBit k = true ↔ fA P m (tpn P m p q r) (tpl P m p q r) k) ∧ fA P m (tpn P m p q r) (tpl P m p q r) p ∧ fA P m (tpn P m p q r) (tpl P m p q r) q ∧ fA P m (tpn P m p q r) (tpl P m p q r) r := by
  obtain ⟨g0, gm, g1⟩ := prim_mul _ hN
  have eq : dot (ncr P p q r) (P q) = dot (ncr P p q r) (P p) := by
    have := dot_vcr_l (vsub (P q) (P p)) (vsub (P r) (P p))
    rw [dot_comm, dot_sub] at this
    have e : dot (ncr P p q r) (P q) - dot (ncr P p q r) (P p) = 0 := this
    omega
  have er : dot (ncr P p q r) (P r) = dot (ncr P p q r) (P p) := by
    have := dot_vcr_r (vsub (P q) (P p)) (vsub (P r) (P p))
    rw [dot_comm, dot_sub] at this
    have e : dot (ncr P p q r) (P r) - dot (ncr P p q r) (P p) = 0 := this
    omega
  have pt : ∀ x : Int, ((gcd3 (ncr P p q r) : Int) * x).tdiv (gcd3 (ncr P p q r) : Int) = x := fun x => Int.mul_tdiv_cancel_left x (by omega)
  by_cases hU : tpU P m p q r m = true
  · have hD : tpD P m p q r m ≠ true := fun e => hUD (by rw [hU, e])
    have y : tpY P m p q r = -(gcd3 (ncr P p q r) : Int) := by simp only [tpY]; rw [if_pos hU]; rfl
    have en : tpn P m p q r = vneg (prim (ncr P p q r)) := by
      simp only [tpn]; rw [y]; simp only [Int.tdiv_neg, vneg, prim]; rfl
    have el : tpl P m p q r = dot (vneg (prim (ncr P p q r))) (P p) := by
      simp only [tpl]; rw [y, crs_ncr, dot_prim _ _ hN, Int.tdiv_neg, pt, dot_neg]
    have nne : vneg (ncr P p q r) ≠ vO := fun e => hN (vneg_O.1 e)
    have sup : ∀ k, k < m → dot (ncr P p q r) (P p) ≤ dot (ncr P p q r) (P k) := by
      intro k hk
      rcases Int.lt_or_le (dot (ncr P p q r) (P k)) (dot (ncr P p q r) (P p)) with u | u
      · exact absurd (tpD_spec.2 ⟨k, hk, u⟩) hD
      · exact u
    have pv : prim (vneg (ncr P p q r)) = vneg (prim (ncr P p q r)) := by
      simp only [prim, gcd3_neg]
      simp only [vneg, Int.neg_tdiv]
    have f := F_mk (P := P) (m := m) (n := vneg (ncr P p q r)) (v := p) (q := q) (r := r) nne hp hq hr (fun k hk => by rw [dot_neg, dot_neg]; have := sup k hk; omega) (by rw [dot_neg, dot_neg]; omega) (by rw [dot_neg, dot_neg]; omega) hN (by
      obtain ⟨k, k1, k2⟩ := tpU_spec.1 hU
      exact ⟨k, k1, by rw [dot_neg, dot_neg]; omega⟩)
    rw [pv] at f
    rw [en, el]
    have e0 : ∀ u, dot (vneg (prim (ncr P p q r))) (P u) = dot (vneg (prim (ncr P p q r))) (P p) ↔ dot (ncr P p q r) (P u) = dot (ncr P p q r) (P p) := by
      intro u; rw [dot_neg, dot_neg]
      constructor
      · intro e; exact (prim_eq0 hN).1 (by omega)
      · intro e; have := (prim_eq0 hN).2 e; omega
    refine ⟨f, fun k => ?_, ⟨hp, rfl⟩, ⟨hq, (e0 q).2 eq⟩, ⟨hr, (e0 r).2 er⟩⟩
    rw [tpB_spec]
    simp only [fA]
    rw [e0]
  · have hU' : tpU P m p q r m = false := by simpa using hU
    have hD : tpD P m p q r m = true := by
      rw [hU'] at hUD
      cases h : tpD P m p q r m
      · exact absurd h.symm hUD
      · rfl
    have y : tpY P m p q r = (gcd3 (ncr P p q r) : Int) := by simp only [tpY]; rw [if_neg hU]; rfl
    have en : tpn P m p q r = prim (ncr P p q r) := by
      simp only [tpn]; rw [y]; rfl
    have el : tpl P m p q r = dot (prim (ncr P p q r)) (P p) := by
      simp only [tpl]; rw [y, crs_ncr, dot_prim _ _ hN, pt]
    have sup : ∀ k, k < m → dot (ncr P p q r) (P k) ≤ dot (ncr P p q r) (P p) := by
      intro k hk
      rcases Int.lt_or_le (dot (ncr P p q r) (P p)) (dot (ncr P p q r) (P k)) with u | u
      · exact absurd (tpU_spec.2 ⟨k, hk, u⟩) hU
      · exact u
    have f := F_mk (P := P) (m := m) (n := ncr P p q r) (v := p) (q := q) (r := r) hN hp hq hr sup eq er hN (tpD_spec.1 hD)
    rw [en, el]
    refine ⟨f, fun k => ?_, ⟨hp, rfl⟩, ⟨hq, (prim_eq0 hN).2 eq⟩, ⟨hr, (prim_eq0 hN).2 er⟩⟩
    rw [tpB_spec]
    simp only [fA]
    rw [prim_eq0 hN]
theorem tp_all {P : Nat → V3} {m p q r : Nat} (hp : p < m) (hq : q < m) (hr : r < m) {n : V3} {l : Int} (h : isF P m n l) (hN : ncr P p q r ≠ vO) (e1 : dot n (P p) = l) (e2 : dot n (P q) = l) (e3 : dot n (P r) = l) : tpU P m p q r m ≠ tpD P m p q r m := by
  intro e
  have pa := perp_par (n := n) (a := vsub (P q) (P p)) (b := vsub (P r) (P p)) (by rw [dot_sub]; omega) (by rw [dot_sub]; omega)
  have key : ∀ u : V3, dot n n * dot (ncr P p q r) u = dot n (ncr P p q r) * dot n u := by
    intro u
    have pa' : vcr n (ncr P p q r) = vO := pa
    rw [vO_iff] at pa'; simp only [vcr] at pa'; obtain ⟨a1, a2, a3⟩ := pa'
    generalize ncr P p q r = N at *
    simp only [dot]; grind
  have np := dot_self_pos (gcd3_ne h.1)
  have sg : dot n (ncr P p q r) ≠ 0 := by
    intro e
    exact hN (dot_self_zero (par_dot (e := ncr P p q r) (gcd3_ne h.1) pa e))
  obtain ⟨_, sup, ⟨k, k1, k2⟩, _⟩ := h
  have kk := key (vsub (P k) (P p))
  rw [dot_sub, dot_sub] at kk
  cases hU : tpU P m p q r m
  · rw [hU] at e
    have noU : ∀ j, j < m → ¬ dot (ncr P p q r) (P p) < dot (ncr P p q r) (P j) := fun j hj c => by have := tpU_spec.2 ⟨j, hj, c⟩; rw [hU] at this; cases this
    have noD : ∀ j, j < m → ¬ dot (ncr P p q r) (P j) < dot (ncr P p q r) (P p) := fun j hj c => by have := tpD_spec.2 ⟨j, hj, c⟩; rw [← e] at this; cases this
    have z : dot (ncr P p q r) (P k) - dot (ncr P p q r) (P p) = 0 := by have := noU k k1; have := noD k k1; omega
    rw [z, Int.mul_zero] at kk
    rcases Int.mul_eq_zero.1 kk.symm with c | c
    · exact sg c
    · omega
  · rw [hU] at e
    obtain ⟨j, j1, j2⟩ := tpU_spec.1 hU
    obtain ⟨i, i1, i2⟩ := tpD_spec.1 e.symm
    have kj := key (vsub (P j) (P p))
    have ki := key (vsub (P i) (P p))
    rw [dot_sub, dot_sub] at kj ki
    have sj := sup j j1
    have si := sup i i1
    have q1 := Int.mul_pos np (show 0 < dot (ncr P p q r) (P j) - dot (ncr P p q r) (P p) by omega)
    have q2 := Int.mul_neg_of_pos_of_neg np (show dot (ncr P p q r) (P i) - dot (ncr P p q r) (P p) < 0 by omega)
    rcases Int.lt_or_le 0 (dot n (ncr P p q r)) with c | c
    · have := Int.mul_nonpos_of_nonneg_of_nonpos (Int.le_of_lt c) (show dot n (P j) - dot n (P p) ≤ 0 by omega); omega
    · have := Int.mul_nonneg_of_nonpos_of_nonpos c (show dot n (P i) - dot n (P p) ≤ 0 by omega); omega
def dnM (P : Nat → V3) (m : Nat) (s : S5) (p q r : Nat) : Prop := (∀ n l, isF P m n l → ncr P p q r ≠ vO → dot n (P p) = l → dot n (P q) = l → dot n (P r) = l → inM s n l) ∧ (ncr P p q r ≠ vO → (∃ k, k < m ∧ dot (ncr P p q r) (P k) ≠ dot (ncr P p q r) (P p)) → s.1 = 0)
def upM (s s' : S5) : Prop := (∀ n l, inM s n l → inM s' n l) ∧ (s.1 = 0 → s'.1 = 0)
theorem upM_tr {s s' s'' : S5} (h : upM s s') (h' : upM s' s'') : upM s s'' := ⟨fun n l x => h'.1 n l (h.1 n l x), fun x => h'.2 (h.2 x)⟩
theorem dnM_up {P : Nat → V3} {m p q r : Nat} {s s' : S5} (h : dnM P m s p q r) (u : upM s s') : dnM P m s' p q r := ⟨fun n l a b c d e => u.1 n l (h.1 n l a b c d e), fun a b => u.2 (h.2 a b)⟩
/-- what holds of the model's list all along: also that the flag falls only for a reason -/
def mJ (P : Nat → V3) (m : Nat) (s : S5) : Prop := mL P m s ∧ (s.1 = 0 ∨ s.1 = 1) ∧ (s.1 = 0 → Sol P m)
theorem tpF_spec {P : Nat → V3} {m p q r fl : Nat} : (tpF P m p q r fl = 0 ∨ tpF P m p q r fl = 1) ∧ (tpF P m p q r fl = 1 ↔ fl = 1 ∧ tpU P m p q r m = false ∧ tpD P m p q r m = false) := by
  simp only [tpF]; split
  · rename_i h; exact ⟨Or.inr rfl, fun _ => h, fun _ => rfl⟩
  · rename_i h; exact ⟨Or.inl rfl, fun e => by omega, fun e => absurd e h⟩
theorem tpS_inv {P : Nat → V3} {m : Nat} (hm : m ≤ 14) (hb : ∀ j, j < m → vbd 20 (P j)) (hD : Dis P m) {s : S5} (h : mJ P m s) {p q r : Nat} (hp : p < m) (hq : q < m) (hr : r < m) :
    (tpN P m p q r s → s.2.1 < 24) ∧ mJ P m (tpS P m p q r s) ∧ upM s (tpS P m p q r s) ∧ dnM P m (tpS P m p q r s) p q r := by
  obtain ⟨hL, hf01, hfS⟩ := h
  obtain ⟨c1, c2, c3⟩ := hL
  -- the flag
  have fl0 : s.1 = 0 → tpF P m p q r s.1 = 0 := by
    intro e
    rcases (tpF_spec (P := P) (m := m) (p := p) (q := q) (r := r) (fl := s.1)).1 with u | u
    · exact u
    · have := ((tpF_spec (P := P) (m := m) (p := p) (q := q) (r := r) (fl := s.1)).2.1 u).1; omega
  have flU : ncr P p q r ≠ vO → (∃ k, k < m ∧ dot (ncr P p q r) (P k) ≠ dot (ncr P p q r) (P p)) → tpF P m p q r s.1 = 0 := by
    rintro hN ⟨k, k1, k2⟩
    rcases (tpF_spec (P := P) (m := m) (p := p) (q := q) (r := r) (fl := s.1)).1 with u | u
    · exact u
    · obtain ⟨_, x, y⟩ := (tpF_spec (P := P) (m := m) (p := p) (q := q) (r := r) (fl := s.1)).2.1 u
      rcases Int.lt_trichotomy (dot (ncr P p q r) (P k)) (dot (ncr P p q r) (P p)) with c | c | c
      · have := tpD_spec.2 ⟨k, k1, c⟩; rw [y] at this; cases this
      · exact absurd c k2
      · have := tpU_spec.2 ⟨k, k1, c⟩; rw [x] at this; cases this
  have flS : ncr P p q r ≠ vO → tpF P m p q r s.1 = 0 → Sol P m := by
    intro hN e
    rcases hf01 with u | u
    · exact hfS u
    · apply Classical.byContradiction
      intro ns
      have cop : ∀ k, k < m → dot (ncr P p q r) (P k) = dot (ncr P p q r) (P p) := by
        intro k hk
        apply Classical.byContradiction
        intro ne
        exact ns ⟨p, q, r, k, hp, hq, hr, hk, by rw [dot_sub]; omega⟩
      have x : tpU P m p q r m = false := by
        cases hh : tpU P m p q r m
        · rfl
        · obtain ⟨k, k1, k2⟩ := tpU_spec.1 hh; have := cop k k1; omega
      have y : tpD P m p q r m = false := by
        cases hh : tpD P m p q r m
        · rfl
        · obtain ⟨k, k1, k2⟩ := tpD_spec.1 hh; have := cop k k1; omega
      have := (tpF_spec (P := P) (m := m) (p := p) (q := q) (r := r) (fl := s.1)).2.2 ⟨u, x, y⟩
      omega
  have f01 := (tpF_spec (P := P) (m := m) (p := p) (q := q) (r := r) (fl := s.1)).1
  have hnew : tpN P m p q r s → ∀ f, f < s.2.1 → s.2.2.2.1 f ≠ tpn P m p q r := by
    intro hn f hf e
    obtain ⟨t1, t2, t3⟩ := hn
    obtain ⟨F1, F2, _⟩ := tp_face hp hq hr t1 t2
    have ff := c2 f hf
    rw [e] at ff
    have el := isF_lev ff.1 F1
    rw [el] at ff
    have : knB s.2.2.1 (tpB P m p q r m) s.2.1 = true := by
      simp only [knB]; rw [anB_spec]
      refine ⟨f, hf, ?_⟩
      rw [decide_eq_true_eq]
      apply Nat.eq_of_testBit_eq
      intro k
      have a := ff.2 k; have b := F2 k
      cases x : (s.2.2.1 f).testBit k <;> cases y : (tpB P m p q r m).testBit k
      · rfl
      · rw [x] at a; exact absurd (a.2 (b.1 y)) (by simp)
      · rw [y] at b; exact absurd (b.2 (a.1 x)) (by simp)
      · rfl
    rw [t3] at this; cases this
  have hcap : tpN P m p q r s → s.2.1 < 24 := by
    intro hn
    obtain ⟨t1, t2, t3⟩ := hn
    have F1 := (tp_face hp hq hr t1 t2).1
    have := F_cap (gV_inj hb hD) (s.2.1 + 1) (nup s.2.2.2.1 s.2.1 (tpn P m p q r)) (nup s.2.2.2.2 s.2.1 (tpl P m p q r)) (fun i hi => by
      by_cases e : i = s.2.1
      · subst e; rw [nup_s, nup_s]; exact F1
      · rw [nup_n e, nup_n e]; exact (c2 i (by omega)).1) (fun i j hi hj e => by
      by_cases e1 : i = s.2.1 <;> by_cases e2 : j = s.2.1
      · omega
      · rw [e1, nup_s, nup_n e2] at e; exact absurd e.symm (hnew ⟨t1, t2, t3⟩ j (by omega))
      · rw [e2, nup_s, nup_n e1] at e; exact absurd e (hnew ⟨t1, t2, t3⟩ i (by omega))
      · rw [nup_n e1, nup_n e2] at e; exact c3 i j (by omega) (by omega) e) (by omega)
    omega
  refine ⟨hcap, ?_⟩
  simp only [tpS]
  split
  · rename_i hN
    exact ⟨⟨⟨c1, c2, c3⟩, hf01, hfS⟩, ⟨fun n l x => x, fun x => x⟩, fun n l hf hN' => absurd hN hN', fun hN' => absurd hN hN'⟩
  rename_i hN
  have hN : ncr P p q r ≠ vO := hN
  split
  · rename_i hUD
    refine ⟨⟨⟨c1, c2, c3⟩, f01, flS hN⟩, ⟨fun n l x => x, fl0⟩, fun n l hf hN' e1 e2 e3 => absurd hUD (tp_all hp hq hr hf hN e1 e2 e3), flU⟩
  rename_i hUD
  obtain ⟨F1, F2, F3, F4, F5⟩ := tp_face hp hq hr hN hUD
  split
  · rename_i hk
    refine ⟨⟨⟨c1, c2, c3⟩, f01, flS hN⟩, ⟨fun n l x => x, fl0⟩, fun n l hf hN' e1 e2 e3 => ?_, flU⟩
    simp only [knB] at hk
    rw [anB_spec] at hk
    obtain ⟨f, f1, f2⟩ := hk
    rw [decide_eq_true_eq] at f2
    have ff := c2 f f1
    have on : ∀ k, fA P m (tpn P m p q r) (tpl P m p q r) k → dot (s.2.2.2.1 f) (P k) = s.2.2.2.2 f := by
      intro k hk
      exact ((ff.2 k).1 (by rw [f2]; exact (F2 k).2 hk)).2
    have u := F_uni ff.1 hf hN (on p F3) (on q F4) (on r F5) e1 e2 e3
    exact ⟨f, f1, u.1, u.2⟩
  rename_i hk
  have hn : tpN P m p q r s := ⟨hN, hUD, by simpa using hk⟩
  have h24 := hcap hn
  have vv : ∀ f, vup s.2.2.2.1 s.2.1 (tpn P m p q r) f = nup s.2.2.2.1 s.2.1 (tpn P m p q r) f := fun f => rfl
  have zz : ∀ f, zup s.2.2.2.2 s.2.1 (tpl P m p q r) f = nup s.2.2.2.2 s.2.1 (tpl P m p q r) f := fun f => rfl
  refine ⟨⟨⟨by simp only; omega, fun f hf => ?_, fun f g hf hg e => ?_⟩, f01, flS hN⟩, ⟨fun n l x => ?_, fl0⟩, fun n l hf hN' e1 e2 e3 => ?_, flU⟩
  · show isF P m (vup s.2.2.2.1 s.2.1 (tpn P m p q r) f) (zup s.2.2.2.2 s.2.1 (tpl P m p q r) f) ∧ ∀ k, (nup s.2.2.1 s.2.1 (tpB P m p q r m) f).testBit k = true ↔ fA P m (vup s.2.2.2.1 s.2.1 (tpn P m p q r) f) (zup s.2.2.2.2 s.2.1 (tpl P m p q r) f) k
    simp only at hf
    rw [vv, zz]
    by_cases e : f = s.2.1
    · subst e; rw [nup_s, nup_s, nup_s]; exact ⟨F1, F2⟩
    · rw [nup_n e, nup_n e, nup_n e]; exact c2 f (by omega)
  · have e' : vup s.2.2.2.1 s.2.1 (tpn P m p q r) f = vup s.2.2.2.1 s.2.1 (tpn P m p q r) g := e
    simp only at hf hg
    rw [vv, vv] at e'
    by_cases e1 : f = s.2.1 <;> by_cases e2 : g = s.2.1
    · omega
    · rw [e1, nup_s, nup_n e2] at e'; exact absurd e'.symm (hnew hn g (by omega))
    · rw [e2, nup_s, nup_n e1] at e'; exact absurd e' (hnew hn f (by omega))
    · rw [nup_n e1, nup_n e2] at e'; exact c3 f g (by omega) (by omega) e'
  · obtain ⟨f, f1, f2, f3⟩ := x
    refine ⟨f, by simp only; omega, ?_⟩
    show vup s.2.2.2.1 s.2.1 (tpn P m p q r) f = n ∧ zup s.2.2.2.2 s.2.1 (tpl P m p q r) f = l
    rw [vv, zz, nup_n (by omega), nup_n (by omega)]; exact ⟨f2, f3⟩
  · have u := F_uni F1 hf hN F3.2 F4.2 F5.2 e1 e2 e3
    refine ⟨s.2.1, by simp only; omega, ?_⟩
    show vup s.2.2.2.1 s.2.1 (tpn P m p q r) s.2.1 = n ∧ zup s.2.2.2.2 s.2.1 (tpl P m p q r) s.2.1 = l
    rw [vv, zz, nup_s, nup_s]; exact u
theorem mCap_ok {P : Nat → V3} {m : Nat} (hm : m ≤ 14) (hb : ∀ j, j < m → vbd 20 (P j)) (hD : Dis P m) : mCap P m := by
  refine ⟨mJ P m, fun fb nn lv => ⟨⟨by simp only; omega, fun f hf => by simp only at hf; omega, fun f g hf => by simp only at hf; omega⟩, Or.inr rfl, fun e => by simp only at e; omega⟩, fun s h => h.1.1, fun p q r s hpq hqr hr h => ?_⟩
  obtain ⟨a, b, _⟩ := tpS_inv hm hb hD h (p := p) (q := q) (r := r) (by omega) (by omega) hr
  exact ⟨a, b⟩
theorem mR_inv {P : Nat → V3} {m : Nat} (hm : m ≤ 14) (hb : ∀ j, j < m → vbd 20 (P j)) (hD : Dis P m) {p q : Nat} (hp : p < m) (hq : q < m) : ∀ (k r : Nat) (s : S5), mJ P m s → r + k ≤ m → mJ P m (mR P m p q k r s) ∧ upM s (mR P m p q k r s) ∧ ∀ r', r ≤ r' → r' < r + k → dnM P m (mR P m p q k r s) p q r'
  | 0, r, s, h, hk => ⟨h, ⟨fun n l x => x, fun x => x⟩, fun p' a b => by omega⟩
  | k + 1, r, s, h, hk => by
    obtain ⟨_, a1, a2, a3⟩ := tpS_inv hm hb hD h hp hq (r := r) (by omega)
    obtain ⟨b1, b2, b3⟩ := mR_inv hm hb hD hp hq k (r + 1) _ a1 (by omega)
    simp only [mR]
    refine ⟨b1, upM_tr a2 b2, fun r' c1 c2 => ?_⟩
    by_cases e : r' = r
    · subst e; exact dnM_up a3 b2
    · exact b3 r' (by omega) (by omega)
theorem mQ_inv {P : Nat → V3} {m : Nat} (hm : m ≤ 14) (hb : ∀ j, j < m → vbd 20 (P j)) (hD : Dis P m) {p : Nat} (hp : p < m) : ∀ (k q : Nat) (s : S5), mJ P m s → q + k ≤ m → mJ P m (mQ P m p k q s) ∧ upM s (mQ P m p k q s) ∧ ∀ q', q ≤ q' → q' < q + k → ∀ r', q' < r' → r' < m → dnM P m (mQ P m p k q s) p q' r'
  | 0, r, s, h, hk => ⟨h, ⟨fun n l x => x, fun x => x⟩, fun p' a b => by omega⟩
  | k + 1, q, s, h, hk => by
    obtain ⟨a1, a2, a3⟩ := mR_inv hm hb hD hp (q := q) (by omega) (m - (q + 1)) (q + 1) s h (by omega)
    obtain ⟨b1, b2, b3⟩ := mQ_inv hm hb hD hp k (q + 1) _ a1 (by omega)
    simp only [mQ]
    refine ⟨b1, upM_tr a2 b2, fun q' c1 c2 r' c3 c4 => ?_⟩
    by_cases e : q' = q
    · subst e; exact dnM_up (a3 r' (by omega) (by omega)) b2
    · exact b3 q' (by omega) (by omega) r' c3 c4
theorem mP_inv {P : Nat → V3} {m : Nat} (hm : m ≤ 14) (hb : ∀ j, j < m → vbd 20 (P j)) (hD : Dis P m) : ∀ (k p : Nat) (s : S5), mJ P m s → p + k ≤ m → mJ P m (mP P m k p s) ∧ upM s (mP P m k p s) ∧ ∀ p', p ≤ p' → p' < p + k → ∀ q', p' < q' → q' < m → ∀ r', q' < r' → r' < m → dnM P m (mP P m k p s) p' q' r'
  | 0, r, s, h, hk => ⟨h, ⟨fun n l x => x, fun x => x⟩, fun p' a b => by omega⟩
  | k + 1, p, s, h, hk => by
    obtain ⟨a1, a2, a3⟩ := mQ_inv hm hb hD (p := p) (by omega) (m - (p + 1)) (p + 1) s h (by omega)
    obtain ⟨b1, b2, b3⟩ := mP_inv hm hb hD k (p + 1) _ a1 (by omega)
    simp only [mP]
    refine ⟨b1, upM_tr a2 b2, fun p' c1 c2 q' c3 c4 r' c5 c6 => ?_⟩
    by_cases e : p' = p
    · subst e; exact dnM_up (a3 q' (by omega) (by omega) r' c5 c6) b2
    · exact b3 p' (by omega) (by omega) q' c3 c4 r' c5 c6
theorem det_rot (P : Nat → V3) (p q r s : Nat) : dot (ncr P q r p) (vsub (P s) (P q)) = dot (ncr P p q r) (vsub (P s) (P p)) := by
  rw [ncr_rot]
  have := dot_vcr_l (vsub (P q) (P p)) (vsub (P r) (P p))
  rw [dot_comm, dot_sub] at this
  have e : dot (ncr P p q r) (P q) - dot (ncr P p q r) (P p) = 0 := this
  rw [dot_sub, dot_sub]; omega
theorem det_sw (P : Nat → V3) (p q r s : Nat) : dot (ncr P p r q) (vsub (P s) (P p)) = - dot (ncr P p q r) (vsub (P s) (P p)) := by
  rw [ncr_swap, dot_neg]
/-- the model has all faces, each once; it says flat just where there is no solid -/
theorem mtF_spec {P : Nat → V3} {m : Nat} (hm : m ≤ 14) (hb : ∀ j, j < m → vbd 20 (P j)) (hD : Dis P m) (fb : Nat → Nat) (nn : Nat → V3) (lv : Nat → Int) :
    mL P m (mtF P m (1, 0, fb, nn, lv)) ∧ (∀ n l, isF P m n l → inM (mtF P m (1, 0, fb, nn, lv)) n l) ∧ ((mtF P m (1, 0, fb, nn, lv)).1 = 0 ∨ (mtF P m (1, 0, fb, nn, lv)).1 = 1) ∧ ((mtF P m (1, 0, fb, nn, lv)).1 = 0 ↔ Sol P m) := by
  have h0 : mJ P m (1, 0, fb, nn, lv) := ⟨⟨by simp only; omega, fun f hf => by simp only at hf; omega, fun f g hf => by simp only at hf; omega⟩, Or.inr rfl, fun e => by simp only at e; omega⟩
  obtain ⟨a1, a2, a3⟩ := mP_inv hm hb hD m 0 _ h0 (by omega)
  refine ⟨a1.1, fun n l hf => ?_, a1.2.1, a1.2.2, fun hs => ?_⟩
  · obtain ⟨p, q, r, h1, h2, h3, hN, e1, e2, e3⟩ := F_asc hf
    exact (a3 p (by omega) (by omega) q h1 (by omega) r h2 h3).1 n l hf hN e1 e2 e3
  · obtain ⟨p, q, r, s, hp, hq, hr, hs, hd⟩ := hs
    have asc : ∀ p q r, p < q → q < r → r < m → dot (ncr P p q r) (vsub (P s) (P p)) ≠ 0 → (mtF P m (1, 0, fb, nn, lv)).1 = 0 := by
      intro p q r h1 h2 h3 hd
      refine (a3 p (by omega) (by omega) q h1 (by omega) r h2 h3).2 (fun e => hd (by rw [e]; simp [dot, vO])) ⟨s, hs, ?_⟩
      rw [dot_sub] at hd; omega
    have hN : ncr P p q r ≠ vO := fun e => hd (by rw [e]; simp [dot, vO])
    obtain ⟨⟨h1, h2, h3⟩, _⟩ := ncr_perm hN
    have r1 := det_rot P p q r s
    have r2 := det_rot P q r p s
    have s0 := det_sw P p q r s
    have s1 := det_sw P q r p s
    have s2 := det_sw P r p q s
    by_cases c1 : p < q
    · by_cases c2 : q < r
      · exact asc p q r c1 c2 hr hd
      · by_cases c3 : p < r
        · exact asc p r q c3 (by omega) hq (by omega)
        · exact asc r p q (by omega) c1 hq (by omega)
    · by_cases c2 : p < r
      · exact asc q p r (by omega) c2 hr (by omega)
      · by_cases c3 : q < r
        · exact asc q r p c3 (by omega) hp (by omega)
        · exact asc r q p (by omega) (by omega) hp (by omega)
