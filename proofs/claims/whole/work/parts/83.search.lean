def lsP (body : Nat → List (Nat → Nat)) : Nat → Nat → List (Nat → Nat)
  | 0, _ => []
  | k + 1, to => body to ++ lsP body k (to + 1)
/-- what the class's search finds, in its order -/
def exL (P : Nat → V3) (CB : Nat) : Nat → Nat → Nat → (Nat → Nat) → List (Nat → Nat)
  | 0, _, _, dr => [dr]
  | f + 1, nx, fr, dr => if CB.testBit nx = true then lsP (fun to => if fr.testBit to = true ∧ ftR P CB dr nx to nx 0 = true then exL P CB f (nx + 1) (bdf fr (2 ^ to)) (nup dr nx to) else []) 14 0 else exL P CB f (nx + 1) fr dr
def lxl (C : Nat → Prop) (s t : Nat → Nat) : Prop := ∃ p, C p ∧ s p < t p ∧ ∀ q, q < p → C q → s q = t q
theorem ftR_spec (P : Nat → V3) (CB : Nat) (dr : Nat → Nat) (nx to : Nat) : ∀ (k i : Nat), ftR P CB dr nx to k i = true ↔ ∀ j, i ≤ j → j < i + k → CB.testBit j = true → dst P j nx = dst P (dr j) to
  | 0, i => by
    simp only [ftR]
    exact ⟨fun _ j a b => by omega, fun _ => trivial⟩
  | k + 1, i => by
    simp only [ftR]
    split
    · rename_i h
      constructor
      · intro e; cases e
      · intro e; exact absurd (e i (by omega) (by omega) h.1) h.2
    · rename_i h
      rw [ftR_spec P CB dr nx to k (i + 1)]
      constructor
      · intro e j a b c
        by_cases ej : j = i
        · subst ej
          apply Classical.byContradiction; intro hne; exact h ⟨c, hne⟩
        · exact e j (by omega) (by omega) c
      · intro e j a b c; exact e j (by omega) (by omega) c
theorem lsP_mem {body : Nat → List (Nat → Nat)} {t : Nat → Nat} : ∀ (k to : Nat), t ∈ lsP body k to ↔ ∃ x, to ≤ x ∧ x < to + k ∧ t ∈ body x
  | 0, to => by
    simp only [lsP]
    constructor
    · intro h; cases h
    · rintro ⟨x, a, b, _⟩; omega
  | k + 1, to => by
    simp only [lsP]
    rw [List.mem_append, lsP_mem k (to + 1)]
    constructor
    · rintro (h | ⟨x, a, b, c⟩)
      · exact ⟨to, by omega, by omega, h⟩
      · exact ⟨x, by omega, by omega, c⟩
    · rintro ⟨x, a, b, c⟩
      by_cases e : x = to
      · subst e; exact Or.inl c
      · exact Or.inr ⟨x, by omega, by omega, c⟩
theorem exL_mem {P : Nat → V3} {CB : Nat} : ∀ (f nx fr : Nat) (dr t : Nat → Nat), nx + f = 14 → t ∈ exL P CB f nx fr dr → (∀ q, q < nx → t q = dr q) ∧ ∀ p, nx ≤ p → p < 14 → CB.testBit p = true → fr.testBit (t p) = true ∧ ∀ q, q < p → CB.testBit q = true → dst P q p = dst P (t q) (t p)
  | 0, nx, fr, dr, t, hf, h => by
    simp only [exL, List.mem_singleton] at h
    subst h
    exact ⟨fun q _ => rfl, fun p a b => by omega⟩
  | f + 1, nx, fr, dr, t, hf, h => by
    simp only [exL] at h
    split at h
    · rename_i hb
      obtain ⟨x, _, _, hx⟩ := (lsP_mem _ _).1 h
      split at hx
      · rename_i hc
        obtain ⟨a, b⟩ := exL_mem f (nx + 1) _ _ t (by omega) hx
        have an : t nx = x := by rw [a nx (by omega), nup_s]
        refine ⟨fun q hq => by rw [a q (by omega), nup_n (by omega)], fun p p1 p2 p3 => ?_⟩
        by_cases e : p = nx
        · subst e
          rw [an]
          refine ⟨hc.1, fun q hq cq => ?_⟩
          rw [a q (by omega), nup_n (by omega)]
          exact (ftR_spec P CB dr p x p 0).1 hc.2 q (by omega) (by omega) cq
        · obtain ⟨b1, b2⟩ := b p (by omega) p2 p3
          rw [bdf_bit, Bool.and_eq_true] at b1
          exact ⟨b1.1, b2⟩
      · cases hx
    · rename_i hb
      obtain ⟨a, b⟩ := exL_mem f (nx + 1) _ _ t (by omega) h
      refine ⟨fun q hq => a q (by omega), fun p p1 p2 p3 => ?_⟩
      by_cases e : p = nx
      · subst e; exact absurd p3 hb
      · exact b p (by omega) p2 p3
theorem exL_all {P : Nat → V3} {CB : Nat} {s : Nat → Nat} (hd : ∀ p q, q < p → p < 14 → CB.testBit p = true → CB.testBit q = true → dst P q p = dst P (s q) (s p) ∧ s q ≠ s p) (h14 : ∀ p, p < 14 → CB.testBit p = true → s p < 14) : ∀ (f nx fr : Nat) (dr : Nat → Nat), nx + f = 14 → (∀ q, q < nx → CB.testBit q = true → dr q = s q) → (∀ p, nx ≤ p → p < 14 → CB.testBit p = true → fr.testBit (s p) = true) → ∃ t, t ∈ exL P CB f nx fr dr ∧ ∀ p, p < 14 → CB.testBit p = true → t p = s p
  | 0, nx, fr, dr, hf, h1, h2 => ⟨dr, by simp [exL], fun p hp hc => h1 p (by omega) hc⟩
  | f + 1, nx, fr, dr, hf, h1, h2 => by
    simp only [exL]
    split
    · rename_i hb
      obtain ⟨t, ht, t1⟩ := exL_all hd h14 f (nx + 1) (bdf fr (2 ^ s nx)) (nup dr nx (s nx)) (by omega) (fun q hq cq => by
        by_cases e : q = nx
        · subst e; exact nup_s
        · rw [nup_n e]; exact h1 q (by omega) cq) (fun p p1 p2 p3 => by
        rw [bdf_bit, Bool.and_eq_true]
        refine ⟨h2 p (by omega) p2 p3, ?_⟩
        rw [Nat.testBit_two_pow]
        simp only [Bool.not_eq_true', decide_eq_false_iff_not]
        exact (hd p nx (by omega) p2 p3 hb).2)
      refine ⟨t, (lsP_mem _ _).2 ⟨s nx, by omega, by have := h14 nx (by omega) hb; omega, ?_⟩, t1⟩
      rw [if_pos]
      · exact ht
      · refine ⟨h2 nx (by omega) (by omega) hb, (ftR_spec ..).2 (fun j _ j2 j3 => ?_)⟩
        rw [h1 j (by omega) j3]
        exact (hd nx j (by omega) (by omega) hb j3).1
    · rename_i hb
      exact exL_all hd h14 f (nx + 1) fr dr (by omega) (fun q hq cq => by
        by_cases e : q = nx
        · subst e; exact absurd cq hb
        · exact h1 q (by omega) cq) (fun p p1 => h2 p (by omega))
theorem lsP_pw {R : (Nat → Nat) → (Nat → Nat) → Prop} {body : Nat → List (Nat → Nat)} (h1 : ∀ x, (body x).Pairwise R) (h2 : ∀ x y s t, x < y → s ∈ body x → t ∈ body y → R s t) : ∀ (k to : Nat), (lsP body k to).Pairwise R
  | 0, to => List.Pairwise.nil
  | k + 1, to => by
    simp only [lsP]
    rw [List.pairwise_append]
    refine ⟨h1 to, lsP_pw h1 h2 k (to + 1), fun s hs t ht => ?_⟩
    obtain ⟨x, x1, _, x3⟩ := (lsP_mem _ _).1 ht
    exact h2 to x s t (by omega) hs x3
theorem exL_pw {P : Nat → V3} {CB : Nat} : ∀ (f nx fr : Nat) (dr : Nat → Nat), nx + f = 14 → (exL P CB f nx fr dr).Pairwise (lxl (fun p => CB.testBit p = true))
  | 0, nx, fr, dr, _ => List.pairwise_singleton ..
  | f + 1, nx, fr, dr, hf => by
    simp only [exL]
    split
    · rename_i hb
      refine lsP_pw (fun x => ?_) (fun x y s t hxy hs ht => ?_) 14 0
      · split
        · exact exL_pw f (nx + 1) _ _ (by omega)
        · exact List.Pairwise.nil
      · split at hs
        · split at ht
          · obtain ⟨a, _⟩ := exL_mem f (nx + 1) _ _ s (by omega) hs
            obtain ⟨b, _⟩ := exL_mem f (nx + 1) _ _ t (by omega) ht
            refine ⟨nx, hb, ?_, fun q hq _ => ?_⟩
            · rw [a nx (by omega), b nx (by omega), nup_s, nup_s]; exact hxy
            · rw [a q (by omega), b q (by omega), nup_n (by omega), nup_n (by omega)]
          · cases ht
        · cases hs
    · exact exL_pw f (nx + 1) fr dr (by omega)
/-- what is written when these are kept -/
def Ap (CB : Nat) (s s' : St) (l : List (Nat → Nat)) : Prop := s'.1 = s.1 + l.length ∧ (∀ j, j < 14 * s.1 → s'.2.1 j = s.2.1 j) ∧ ∀ k t, l[k]? = some t → ∀ p, p < 14 → CB.testBit p = true → s'.2.1 (14 * (s.1 + k) + p) = t p
theorem Ap_nil (CB : Nat) (s : St) : Ap CB s s [] := ⟨rfl, fun _ _ => rfl, fun k t h => by simp at h⟩
theorem Ap_app {CB : Nat} {s s' s'' : St} {l l' : List (Nat → Nat)} (h : Ap CB s s' l) (h' : Ap CB s' s'' l') : Ap CB s s'' (l ++ l') := by
  obtain ⟨a1, a2, a3⟩ := h
  obtain ⟨b1, b2, b3⟩ := h'
  refine ⟨by rw [List.length_append]; omega, fun j hj => by rw [b2 j (by omega), a2 j hj], fun k t hk p hp cp => ?_⟩
  by_cases e : k < l.length
  · rw [List.getElem?_append_left e] at hk
    rw [b2 _ (by omega)]
    exact a3 k t hk p hp cp
  · rw [List.getElem?_append_right (by omega)] at hk
    have := b3 (k - l.length) t hk p hp cp
    rw [a1, show s.1 + l.length + (k - l.length) = s.1 + k by omega] at this
    exact this
theorem ftR_congr {P : Nat → V3} {CB nx to : Nat} {dr dr' : Nat → Nat} (h : ∀ q, q < nx → CB.testBit q = true → dr q = dr' q) : ftR P CB dr nx to nx 0 = ftR P CB dr' nx to nx 0 := by
  have : ftR P CB dr nx to nx 0 = true ↔ ftR P CB dr' nx to nx 0 = true := by
    rw [ftR_spec, ftR_spec]
    constructor
    · intro e j a b c; rw [← h j (by omega) c]; exact e j a b c
    · intro e j a b c; rw [h j (by omega) c]; exact e j a b c
  cases x : ftR P CB dr nx to nx 0 <;> cases y : ftR P CB dr' nx to nx 0
  · rfl
  · rw [x, y] at this; simp at this
  · rw [x, y] at this; simp at this
  · rfl
theorem lpR_sim {CB nx : Nat} {body : Nat → St → St} {bl : Nat → List (Nat → Nat)} {dr : Nat → Nat} (hb : ∀ to s, (∀ q, q < nx → CB.testBit q = true → s.2.2 q = dr q) → s.1 + (bl to).length ≤ 48 → Ap CB s (body to s) (bl to) ∧ ∀ q, q < nx → (body to s).2.2 q = s.2.2 q) : ∀ (k to : Nat) (s : St), (∀ q, q < nx → CB.testBit q = true → s.2.2 q = dr q) → s.1 + (lsP bl k to).length ≤ 48 → Ap CB s (lpR body k to s) (lsP bl k to) ∧ ∀ q, q < nx → (lpR body k to s).2.2 q = s.2.2 q
  | 0, to, s, _, _ => ⟨Ap_nil CB s, fun _ _ => rfl⟩
  | k + 1, to, s, h1, h2 => by
    simp only [lsP] at h2 ⊢
    simp only [lpR]
    rw [List.length_append] at h2
    obtain ⟨a, b⟩ := hb to s h1 (by omega)
    obtain ⟨c, d⟩ := lpR_sim hb k (to + 1) (body to s) (fun q hq cq => by rw [b q hq]; exact h1 q hq cq) (by have := a.1; omega)
    exact ⟨Ap_app a c, fun q hq => by rw [d q hq, b q hq]⟩
theorem exR_sim {P : Nat → V3} {CB : Nat} : ∀ (f nx fr : Nat) (s : St) (dr : Nat → Nat), nx + f = 14 → (∀ q, q < nx → CB.testBit q = true → s.2.2 q = dr q) → s.1 + (exL P CB f nx fr dr).length ≤ 48 → Ap CB s (exR P CB f nx fr s) (exL P CB f nx fr dr) ∧ ∀ q, q < nx → (exR P CB f nx fr s).2.2 q = s.2.2 q
  | 0, nx, fr, s, dr, hf, h1, h2 => by
    simp only [exL, List.length_singleton] at h2
    simp only [exR, kpS, exL]
    rw [if_pos (by omega)]
    refine ⟨⟨rfl, fun j hj => ?_, fun k t hk p hp cp => ?_⟩, fun q _ => rfl⟩
    · simp only [va_cpy]; rw [if_neg (by omega)]
    · have hk0 : k = 0 := by
        rcases Nat.eq_zero_or_pos k with e | e
        · exact e
        · rw [List.getElem?_eq_none (by simp; omega)] at hk; cases hk
      subst hk0
      simp at hk
      subst hk
      simp only [va_cpy, Nat.add_zero]
      rw [if_pos (by omega), show 0 + (14 * s.1 + p - 14 * s.1) = p by omega]
      exact h1 p (by omega) cp
  | f + 1, nx, fr, s, dr, hf, h1, h2 => by
    simp only [exL] at h2 ⊢
    simp only [exR]
    by_cases hb : CB.testBit nx = true
    · rw [if_pos hb] at h2 ⊢
      rw [if_pos hb]
      refine lpR_sim (dr := dr) (fun to s' g1 g2 => ?_) 14 0 s h1 h2
      rw [ftR_congr g1]
      split
      · rename_i hc
        rw [if_pos hc] at g2
        obtain ⟨a, b⟩ := exR_sim f (nx + 1) (bdf fr (2 ^ to)) (s'.1, s'.2.1, nup s'.2.2 nx to) (nup dr nx to) (by omega) (fun q hq cq => by
          show nup s'.2.2 nx to q = nup dr nx to q
          by_cases e : q = nx
          · subst e; rw [nup_s, nup_s]
          · rw [nup_n e, nup_n e]; exact g1 q (by omega) cq) g2
        refine ⟨⟨a.1, a.2.1, a.2.2⟩, fun q hq => ?_⟩
        rw [b q (by omega)]
        exact nup_n (by omega)
      · rename_i hc
        exact ⟨Ap_nil CB s', fun q _ => rfl⟩
    · rw [if_neg hb] at h2 ⊢
      rw [if_neg hb]
      obtain ⟨a, b⟩ := exR_sim f (nx + 1) fr s dr (by omega) (fun q hq cq => by
        by_cases e : q = nx
        · subst e; exact absurd cq hb
        · exact h1 q (by omega) cq) h2
      exact ⟨a, fun q hq => b q (by omega)⟩
/-- the class lists all symmetries, in order -/
theorem exR_spec {P : Nat → V3} {m CB : Nat} (hm : m ≤ 14) (hb : ∀ j, j < m → vbd 20 (P j)) (hD : Dis P m) (hs : Sol P m) (hC : ∀ k, CB.testBit k = true ↔ isCor P m k) (x : (Nat → Nat) × (Nat → Nat)) : SyL P m (exR P CB 14 0 CB (0, x)).1 (imF (exR P CB 14 0 CB (0, x))) ∧ (exR P CB 14 0 CB (0, x)).1 ≤ 48 ∧ ∀ i j, i < j → j < (exR P CB 14 0 CB (0, x)).1 → lxl (isCor P m) (imF (exR P CB 14 0 CB (0, x)) i) (imF (exR P CB 14 0 CB (0, x)) j) := by
  have c14 : ∀ {p}, isCor P m p → p < 14 := fun h => by have := h.1; omega
  -- the list itself
  have hmem : ∀ t, t ∈ exL P CB 14 0 CB x.2 → sy P m t := by
    intro t ht
    obtain ⟨_, b⟩ := exL_mem 14 0 CB x.2 t (by omega) ht
    refine ⟨fun p hp => (hC _).1 (b p (by omega) (c14 hp) ((hC p).2 hp)).1, fun p q hp hq => ?_⟩
    rcases Nat.lt_trichotomy p q with u | u | u
    · exact ((b q (by omega) (c14 hq) ((hC q).2 hq)).2 p u ((hC p).2 hp)).symm
    · subst u; rw [dst_self, dst_self]
    · rw [dst_comm, dst_comm P p q]
      exact ((b p (by omega) (c14 hp) ((hC p).2 hp)).2 q u ((hC q).2 hq)).symm
  have hall : ∀ s, sy P m s → ∃ t, t ∈ exL P CB 14 0 CB x.2 ∧ ∀ p, isCor P m p → t p = s p := by
    intro s hsy
    obtain ⟨t, t1, t2⟩ := exL_all (P := P) (CB := CB) (s := s) (fun p q hqp hp cp cq => ⟨(hsy.2 q p ((hC q).1 cq) ((hC p).1 cp)).symm, fun e => by have := sy_inj hD hsy ((hC q).1 cq) ((hC p).1 cp) e; omega⟩) (fun p hp cp => c14 (hsy.1 p ((hC p).1 cp))) 14 0 CB x.2 (by omega) (fun q hq => by omega) (fun p _ hp cp => (hC _).2 (hsy.1 p ((hC p).1 cp)))
    exact ⟨t, t1, fun p hp => t2 p (c14 hp) ((hC p).2 hp)⟩
  have pw := exL_pw (P := P) (CB := CB) 14 0 CB x.2 (by omega)
  have hC' : (fun p => CB.testBit p = true) = isCor P m := by funext k; exact propext (hC k)
  rw [hC'] at pw
  generalize hl : exL P CB 14 0 CB x.2 = l at *
  have lx : ∀ (i j : Nat) (s t : Nat → Nat), i < j → l[i]? = some s → l[j]? = some t → lxl (isCor P m) s t := by
    intro i j s t hij hi hj
    obtain ⟨i1, rfl⟩ := List.getElem?_eq_some_iff.1 hi
    obtain ⟨j1, rfl⟩ := List.getElem?_eq_some_iff.1 hj
    exact List.pairwise_iff_getElem.1 pw i j i1 j1 hij
  have get : ∀ i : Nat, i < l.length → ∃ t, l[i]? = some t ∧ t ∈ l := fun i hi => ⟨l[i], List.getElem?_eq_getElem hi, List.getElem_mem hi⟩
  have lxne : ∀ s t, lxl (isCor P m) s t → ¬ ∀ p, isCor P m p → s p = t p := by
    rintro s t ⟨p, p1, p2, _⟩ h; have := h p p1; omega
  -- as a row of maps
  have toS : ∀ (im : Nat → Nat → Nat), (∀ (i : Nat) (t : Nat → Nat), l[i]? = some t → ∀ p, isCor P m p → im i p = t p) → SyL P m l.length im := by
    intro im him
    refine ⟨fun i hi => ?_, fun i j hi hj e => ?_, fun s hsy => ?_⟩
    · obtain ⟨t, t1, t2⟩ := get i hi
      have h := hmem t t2
      refine ⟨fun p hp => by rw [him i t t1 p hp]; exact h.1 p hp, fun p q hp hq => by rw [him i t t1 p hp, him i t t1 q hq]; exact h.2 p q hp hq⟩
    · obtain ⟨s, s1, _⟩ := get i hi
      obtain ⟨t, t1, _⟩ := get j hj
      have e' : ∀ p, isCor P m p → s p = t p := fun p hp => by rw [← him i s s1 p hp, ← him j t t1 p hp]; exact e p hp
      rcases Nat.lt_trichotomy i j with u | u | u
      · exact absurd e' (lxne _ _ (lx i j s t u s1 t1))
      · exact u
      · exact absurd (fun p hp => (e' p hp).symm) (lxne _ _ (lx j i t s u t1 s1))
    · obtain ⟨t, t1, t2⟩ := hall s hsy
      obtain ⟨i, hi, rfl⟩ := List.getElem_of_mem t1
      exact ⟨i, hi, fun p hp => by rw [him i l[i] (List.getElem?_eq_getElem hi) p hp]; exact t2 p hp⟩
  have N48 : l.length ≤ 48 := by
    refine sy_48 hm hb hD hs (toS (fun i => (l[i]?).getD (fun p => p)) (fun i t ht p _ => by rw [ht]; rfl))
  obtain ⟨⟨a1, _, a3⟩, _⟩ := exR_sim (P := P) (CB := CB) 14 0 CB (0, x) x.2 (by omega) (fun q hq => by omega) (by rw [hl]; simp only; omega)
  rw [hl] at a1 a3
  simp only [Nat.zero_add] at a1 a3
  have him : ∀ (i : Nat) (t : Nat → Nat), l[i]? = some t → ∀ p, isCor P m p → imF (exR P CB 14 0 CB (0, x)) i p = t p := fun i t ht p hp => a3 i t ht p (c14 hp) ((hC p).2 hp)
  refine ⟨by rw [a1]; exact toS _ him, by rw [a1]; exact N48, fun i j hij hj => ?_⟩
  rw [a1] at hj
  obtain ⟨s, s1, _⟩ := get i (by omega)
  obtain ⟨t, t1, _⟩ := get j hj
  obtain ⟨p, p1, p2, p3⟩ := lx i j s t hij s1 t1
  exact ⟨p, p1, by rw [him i s s1 p p1, him j t t1 p p1]; exact p2, fun q hq cq => by rw [him i s s1 q cq, him j t t1 q cq]; exact p3 q hq cq⟩
