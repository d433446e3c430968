/-! The reference: the search for turns -/
/-- a list of different symmetries is no longer than 48 -/
theorem sy_cap {P : Nat → V3} {m N : Nat} {im : Nat → Nat → Nat} (hm : m ≤ 14) (hb : ∀ j, j < m → vbd 20 (P j)) (hD : Dis P m) (hs : Sol P m) (h1 : ∀ i, i < N → sy P m (im i)) (h2 : ∀ i j, i < N → j < N → (∀ p, isCor P m p → im i p = im j p) → i = j) : N ≤ 48 := by
  obtain ⟨⟨a1, a2, a3⟩, a4, _⟩ := exR_spec hm hb hD hs (hCB_spec hm hb hD hs) (fun _ => 0, fun _ => 0)
  have := ct_rel (p := fun _ => True) (q := fun _ => True) (N := N) (M := (exR P (hCB P m) 14 0 (hCB P m) (0, (fun _ => 0, fun _ => 0))).1) (fun i k => ∀ p, isCor P m p → imF (exR P (hCB P m) 14 0 (hCB P m) (0, (fun _ => 0, fun _ => 0))) k p = im i p) (fun i hi _ => by
    obtain ⟨k, k1, k2⟩ := a3 _ (h1 i hi)
    exact ⟨k, k1, trivial, k2⟩) (fun i j k hi hj _ _ _ x y => h2 i j hi hj (fun p hp => (x p hp).symm.trans (y p hp)))
  rw [ct_all, ct_all] at this
  omega
def wrI (im : Nat → Int) (tu : Nat) (f : Nat → Int) (k : Nat) : Nat → Int := fun j => if 14 * tu ≤ j ∧ j < 14 * tu + k then f (j - 14 * tu) else im j
theorem wrI_s (im : Nat → Int) (tu : Nat) (f : Nat → Int) (k : Nat) : zup (wrI im tu f k) (14 * tu + k) (f k) = wrI im tu f (k + 1) := by
  funext j
  unfold zup wrI
  by_cases e : j = 14 * tu + k
  · subst e; rw [if_pos rfl, if_pos (by omega), show 14 * tu + k - 14 * tu = k by omega]
  · rw [if_neg e]
    by_cases e2 : 14 * tu ≤ j ∧ j < 14 * tu + k
    · rw [if_pos e2, if_pos (by omega)]
    · rw [if_neg e2, if_neg (by omega)]
theorem wrI_0 (im : Nat → Int) (tu : Nat) (f : Nat → Int) : wrI im tu f 0 = im := by
  funext j; unfold wrI; rw [if_neg (by omega)]
theorem wrI_in {im : Nat → Int} {tu k p : Nat} {f : Nat → Int} (h : p < k) : wrI im tu f k (14 * tu + p) = f p := by
  unfold wrI; rw [if_pos (by omega), show 14 * tu + p - 14 * tu = p by omega]
theorem wrI_lo {im : Nat → Int} {tu k j : Nat} {f : Nat → Int} (h : j < 14 * tu) : wrI im tu f k j = im j := by
  unfold wrI; rw [if_neg (by omega)]
/-- done: before the goals reached, or at them -/
def dnL (L : Nat) (g t : Nat → Int) : Prop := (∃ j, j < L ∧ (∀ i, i < j → t i = g i) ∧ t j < g j) ∨ ∀ i, i < L → t i = g i
def trow (P : Nat → V3) (m : Nat) (im : Nat → Int) (i : Nat) : Prop := sy P m (fun p => (im (14 * i + p)).toNat) ∧ (∀ p, isCor P m p → 0 ≤ im (14 * i + p) ∧ im (14 * i + p) < m) ∧ ∀ p, p < m → ¬ isCor P m p → im (14 * i + p) = -1
def TI (P : Nat → V3) (m : Nat) (ba : Nat → Nat) (L : Nat) (g : Nat → Int) (tu : Nat) (im : Nat → Int) : Prop :=
  (∀ i, i < tu → trow P m im i) ∧ (∀ i j, i < tu → j < tu → (∀ p, isCor P m p → im (14 * i + p) = im (14 * j + p)) → i = j) ∧ (∀ i, i < tu → dnL L g (fun k => im (14 * i + ba k))) ∧ ∀ s, sy P m s → dnL L g (fun k => (s (ba k) : Int)) → ∃ i, i < tu ∧ ∀ p, isCor P m p → im (14 * i + p) = (s p : Int)
theorem TI_cap {P : Nat → V3} {m : Nat} (hm : m ≤ 14) (hb : ∀ j, j < m → vbd 20 (P j)) (hD : Dis P m) (hs : Sol P m) {ba : Nat → Nat} {L : Nat} {g : Nat → Int} {tu : Nat} {im : Nat → Int} (h : TI P m ba L g tu im) : tu ≤ 48 := by
  refine sy_cap hm hb hD hs (im := fun i p => (im (14 * i + p)).toNat) (fun i hi => (h.1 i hi).1) (fun i j hi hj e => h.2.1 i j hi hj (fun p hp => ?_))
  have a := (h.1 i hi).2.1 p hp
  have b := (h.1 j hj).2.1 p hp
  have c : (im (14 * i + p)).toNat = (im (14 * j + p)).toNat := e p hp
  omega
def Wm (m L : Nat) (g : Nat → Int) : Int := (if 0 < L then ((m : Int) - g 0) * 65536 else 0) + (if 1 < L then ((m : Int) - g 1) * 4096 else 0) + (if 2 < L then ((m : Int) - g 2) * 256 else 0) + (if 3 < L then ((m : Int) - g 3) * 16 else 0)
theorem zup_at (g : Nat → Int) (M : Nat) (v : Int) : zup g M v M = v := by unfold zup; rw [if_pos rfl]
theorem zup_of (g : Nat → Int) {M j : Nat} (v : Int) (h : j ≠ M) : zup g M v j = g j := by unfold zup; rw [if_neg h]
/-- one goal further on, where it leads nowhere -/
theorem TI_skip {P : Nat → V3} {m : Nat} {ba : Nat → Nat} {M : Nat} {g : Nat → Int} {tu : Nat} {im : Nat → Int} (h : TI P m ba (M + 1) g tu im) (hno : ∀ s, sy P m s → ¬ ∀ i, i < M + 1 → (s (ba i) : Int) = zup g M (g M + 1) i) : TI P m ba (M + 1) (zup g M (g M + 1)) tu im := by
  obtain ⟨a, b, c, d⟩ := h
  refine ⟨a, b, fun i hi => ?_, fun s hs hd => d s hs ?_⟩
  · left
    show ∃ j, j < M + 1 ∧ (∀ k, k < j → im (14 * i + ba k) = zup g M (g M + 1) k) ∧ im (14 * i + ba j) < zup g M (g M + 1) j
    have ci := c i hi
    unfold dnL at ci; dsimp only at ci
    rcases ci with ⟨j, j1, j2, j3⟩ | e
    · refine ⟨j, j1, fun k hk => by rw [zup_of _ _ (by omega)]; exact j2 k hk, ?_⟩
      by_cases e : j = M
      · subst e; rw [zup_at]; omega
      · rw [zup_of _ _ e]; exact j3
    · refine ⟨M, by omega, fun k hk => by rw [zup_of _ _ (by omega)]; exact e k (by omega), ?_⟩
      rw [zup_at, e M (by omega)]; omega
  · unfold dnL at hd; dsimp only at hd
    rcases hd with ⟨j, j1, j2, j3⟩ | e
    · by_cases ej : j = M
      · subst ej
        rw [zup_at] at j3
        by_cases e2 : (s (ba j) : Int) < g j
        · exact Or.inl ⟨j, j1, fun k hk => by have := j2 k hk; rw [zup_of _ _ (by omega)] at this; exact this, e2⟩
        · refine Or.inr (fun i hi => ?_)
          by_cases e3 : i = j
          · subst e3; show (s (ba i) : Int) = g i; omega
          · have := j2 i (by omega); rw [zup_of _ _ (by omega)] at this; exact this
      · exact Or.inl ⟨j, j1, fun k hk => by have := j2 k hk; rw [zup_of _ _ (by omega)] at this; exact this, by rw [zup_of _ _ ej] at j3; exact j3⟩
    · exact absurd e (hno s hs)
theorem TI_pop {P : Nat → V3} {m : Nat} {ba : Nat → Nat} {M : Nat} {g : Nat → Int} {tu : Nat} {im : Nat → Int} (hba : isCor P m (ba M)) (h : TI P m ba (M + 1) g tu im) (hg : g M + 1 = m) : TI P m ba M (zup g M (g M + 1)) tu im := by
  obtain ⟨a, b, c, d⟩ := h
  refine ⟨a, b, fun i hi => ?_, fun s hs hd => d s hs ?_⟩
  · have ci := c i hi
    unfold dnL at ci; dsimp only at ci
    rcases ci with ⟨j, j1, j2, j3⟩ | e
    · by_cases ej : j = M
      · subst ej
        exact Or.inr (fun k hk => by rw [zup_of _ _ (by omega)]; exact j2 k hk)
      · exact Or.inl ⟨j, by omega, fun k hk => by rw [zup_of _ _ (by omega)]; exact j2 k hk, by rw [zup_of _ _ ej]; exact j3⟩
    · exact Or.inr (fun k hk => by rw [zup_of _ _ (by omega)]; exact e k (by omega))
  · have hlt : s (ba M) < m := (hs.1 _ hba).1
    unfold dnL at hd; dsimp only at hd
    rcases hd with ⟨j, j1, j2, j3⟩ | e
    · exact Or.inl ⟨j, by omega, fun k hk => by have := j2 k hk; rw [zup_of _ _ (by omega)] at this; exact this, by rw [zup_of _ _ (by omega)] at j3; exact j3⟩
    · by_cases e2 : (s (ba M) : Int) < g M
      · exact Or.inl ⟨M, by omega, fun k hk => by have := e k hk; rw [zup_of _ _ (by omega)] at this; exact this, e2⟩
      · refine Or.inr (fun i hi => ?_)
        by_cases e3 : i = M
        · subst e3; show (s (ba i) : Int) = g i; omega
        · have := e i (by omega); rw [zup_of _ _ (by omega)] at this; exact this
theorem TI_push {P : Nat → V3} {m : Nat} {ba : Nat → Nat} {M : Nat} {g : Nat → Int} {tu : Nat} {im : Nat → Int} (h : TI P m ba (M + 1) g tu im) : TI P m ba (M + 2) (zup (zup g M (g M + 1)) (M + 1) (-1)) tu im := by
  obtain ⟨a, b, c, d⟩ := h
  refine ⟨a, b, fun i hi => ?_, fun s hs hd => d s hs ?_⟩
  · left
    show ∃ j, j < M + 2 ∧ (∀ k, k < j → im (14 * i + ba k) = zup (zup g M (g M + 1)) (M + 1) (-1) k) ∧ im (14 * i + ba j) < zup (zup g M (g M + 1)) (M + 1) (-1) j
    have ci := c i hi
    unfold dnL at ci; dsimp only at ci
    rcases ci with ⟨j, j1, j2, j3⟩ | e
    · refine ⟨j, by omega, fun k hk => by rw [zup_of _ _ (by omega), zup_of _ _ (by omega)]; exact j2 k hk, ?_⟩
      rw [zup_of _ _ (by omega)]
      by_cases e : j = M
      · subst e; rw [zup_at]; omega
      · rw [zup_of _ _ e]; exact j3
    · refine ⟨M, by omega, fun k hk => by rw [zup_of _ _ (by omega), zup_of _ _ (by omega)]; exact e k (by omega), ?_⟩
      rw [zup_of _ _ (by omega), zup_at, e M (by omega)]; omega
  · unfold dnL at hd; dsimp only at hd
    rcases hd with ⟨j, j1, j2, j3⟩ | e
    · by_cases e1 : j = M + 1
      · subst e1; rw [zup_at] at j3; omega
      rw [zup_of _ _ e1] at j3
      have j2' : ∀ i, i < j → (s (ba i) : Int) = zup g M (g M + 1) i := fun i hi => by have := j2 i hi; rw [zup_of _ _ (by omega)] at this; exact this
      by_cases ej : j = M
      · subst ej
        rw [zup_at] at j3
        by_cases e2 : (s (ba j) : Int) < g j
        · exact Or.inl ⟨j, by omega, fun k hk => by have := j2' k hk; rw [zup_of _ _ (by omega)] at this; exact this, e2⟩
        · refine Or.inr (fun i hi => ?_)
          by_cases e3 : i = j
          · subst e3; show (s (ba i) : Int) = g i; omega
          · have := j2' i (by omega); rw [zup_of _ _ (by omega)] at this; exact this
      · exact Or.inl ⟨j, by omega, fun k hk => by have := j2' k hk; rw [zup_of _ _ (by omega)] at this; exact this, by rw [zup_of _ _ ej] at j3; exact j3⟩
    · have := e (M + 1) (by omega)
      rw [zup_at] at this
      omega
/-- four goals are reached -/
theorem TI_add {P : Nat → V3} {m : Nat} (hm : m ≤ 14) (hD : Dis P m) {ba : Nat → Nat} (hba : ∀ k, k < 4 → isCor P m (ba k)) (hbx : bxs P (ba 0) (ba 1) (ba 2) (ba 3) ≠ 0) {g : Nat → Int} {tu : Nat} {im : Nat → Int} (h : TI P m ba 4 g tu im) {G : Nat → Nat} (hG : ∀ k, k < 4 → zup g 3 (g 3 + 1) k = (G k : Int)) (hGc : ∀ k, k < 4 → isCor P m (G k)) (hf : fitG P ba G) {tu' : Nat} (ht : ((∀ x : Nat, isCor P m x → ∃ p, p < m ∧ imQ P m ba G p = (x : Int)) ∧ tu' = tu + 1) ∨ (¬ (∀ x : Nat, isCor P m x → ∃ p, p < m ∧ imQ P m ba G p = (x : Int)) ∧ tu' = tu)) : TI P m ba 4 (zup g 3 (g 3 + 1)) tu' (wrI im tu (imQ P m ba G) m) := by
  obtain ⟨a, b, c, d⟩ := h
  have lo : ∀ i p, i < tu → p < 14 → wrI im tu (imQ P m ba G) m (14 * i + p) = im (14 * i + p) := fun i p hi hp => wrI_lo (by omega)
  have c14 : ∀ {p}, isCor P m p → p < 14 := fun h => by have := h.1; omega
  have base : ∀ k, k < 4 → imQ P m ba G (ba k) = (G k : Int) := fun k hk => imQ_yes hD hf hbx (hba k hk) (hGc k hk) (fun j hj => (hf k j hk hj).symm)
  -- earlier ones stay
  have a' : ∀ i, i < tu → trow P m (wrI im tu (imQ P m ba G) m) i := by
    intro i hi
    obtain ⟨t1, t2, t3⟩ := a i hi
    refine ⟨⟨fun p hp => by show isCor P m (wrI im tu (imQ P m ba G) m (14 * i + p)).toNat; rw [lo i p hi (c14 hp)]; exact t1.1 p hp, fun p q hp hq => by show dst P (wrI im tu (imQ P m ba G) m (14 * i + p)).toNat (wrI im tu (imQ P m ba G) m (14 * i + q)).toNat = _; rw [lo i p hi (c14 hp), lo i q hi (c14 hq)]; exact t1.2 p q hp hq⟩, fun p hp => by rw [lo i p hi (c14 hp)]; exact t2 p hp, fun p hp hn => by rw [lo i p hi (by omega)]; exact t3 p hp hn⟩
  have c' : ∀ i, i < tu → dnL 4 (zup g 3 (g 3 + 1)) (fun k => wrI im tu (imQ P m ba G) m (14 * i + ba k)) ∧ ¬ ∀ k, k < 4 → im (14 * i + ba k) = zup g 3 (g 3 + 1) k := by
    intro i hi
    have e : ∀ k, k < 4 → wrI im tu (imQ P m ba G) m (14 * i + ba k) = im (14 * i + ba k) := fun k hk => lo i _ hi (c14 (hba k hk))
    have lt : ∃ j, j < 4 ∧ (∀ k, k < j → im (14 * i + ba k) = zup g 3 (g 3 + 1) k) ∧ im (14 * i + ba j) < zup g 3 (g 3 + 1) j := by
      have ci := c i hi
      unfold dnL at ci; dsimp only at ci
      rcases ci with ⟨j, j1, j2, j3⟩ | e
      · refine ⟨j, j1, fun k hk => by rw [zup_of _ _ (by omega)]; exact j2 k hk, ?_⟩
        by_cases e : j = 3
        · subst e; rw [zup_at]; omega
        · rw [zup_of _ _ e]; exact j3
      · refine ⟨3, by omega, fun k hk => by rw [zup_of _ _ (by omega)]; exact e k (by omega), ?_⟩
        rw [zup_at, e 3 (by omega)]; omega
    obtain ⟨j, j1, j2, j3⟩ := lt
    refine ⟨Or.inl ⟨j, j1, fun k hk => by show wrI _ _ _ _ _ = _; rw [e k (by omega)]; exact j2 k hk, by show wrI _ _ _ _ _ < _; rw [e j j1]; exact j3⟩, fun h => by have := h j j1; omega⟩
  have d' : ∀ s, sy P m s → dnL 4 (zup g 3 (g 3 + 1)) (fun k => (s (ba k) : Int)) → (∃ i, i < tu ∧ ∀ p, isCor P m p → im (14 * i + p) = (s p : Int)) ∨ ∀ k, k < 4 → s (ba k) = G k := by
    intro s hs hd
    unfold dnL at hd; dsimp only at hd
    rcases hd with ⟨j, j1, j2, j3⟩ | e
    · left
      apply d s hs
      by_cases ej : j = 3
      · subst ej
        rw [zup_at] at j3
        by_cases e2 : (s (ba 3) : Int) < g 3
        · exact Or.inl ⟨3, by omega, fun k hk => by have := j2 k hk; rw [zup_of _ _ (by omega)] at this; exact this, e2⟩
        · refine Or.inr (fun i hi => ?_)
          by_cases e3 : i = 3
          · subst e3; show (s (ba 3) : Int) = g 3; omega
          · have := j2 i (by omega); rw [zup_of _ _ (by omega)] at this; exact this
      · exact Or.inl ⟨j, j1, fun k hk => by have := j2 k hk; rw [zup_of _ _ (by omega)] at this; exact this, by rw [zup_of _ _ ej] at j3; exact j3⟩
    · right
      intro k hk
      have := e k hk
      rw [hG k hk] at this
      have this' : (s (ba k) : Int) = (G k : Int) := this
      omega
  -- a symmetry with these goals is the new one
  have same : ∀ s, sy P m s → (∀ k, k < 4 → s (ba k) = G k) → ∀ p, isCor P m p → imQ P m ba G p = (s p : Int) := by
    intro s hs e p hp
    refine imQ_yes hD hf hbx hp (hs.1 p hp) (fun k hk => ?_)
    rw [← e k hk]
    exact (hs.2 p (ba k) hp (hba k hk)).symm
  rcases ht with ⟨hacc, rfl⟩ | ⟨hna, rfl⟩
  · obtain ⟨nn', hsy⟩ := acc_sy hf hbx hacc
    have new : ∀ p, p < m → wrI im tu (imQ P m ba G) m (14 * tu + p) = imQ P m ba G p := fun p hp => wrI_in hp
    have nrow : trow P m (wrI im tu (imQ P m ba G) m) tu := by
      refine ⟨⟨fun p hp => by show isCor P m (wrI im tu (imQ P m ba G) m (14 * tu + p)).toNat; rw [new p hp.1]; exact hsy.1 p hp, fun p q hp hq => by show dst P (wrI im tu (imQ P m ba G) m (14 * tu + p)).toNat (wrI im tu (imQ P m ba G) m (14 * tu + q)).toNat = _; rw [new p hp.1, new q hq.1]; exact hsy.2 p q hp hq⟩, fun p hp => ?_, fun p hp hn => ?_⟩
      · rw [new p hp.1]
        have h1 := nn' p hp
        have h2 := (hsy.1 p hp).1
        have h2' : (imQ P m ba G p).toNat < m := h2
        exact ⟨h1, by omega⟩
      · rw [new p hp]; exact imQ_no (fun e => hn e.1)
    have ntup : ∀ k, k < 4 → wrI im tu (imQ P m ba G) m (14 * tu + ba k) = zup g 3 (g 3 + 1) k := fun k hk => by rw [new _ (hba k hk).1, base k hk, hG k hk]
    refine ⟨fun i hi => ?_, fun i j hi hj e => ?_, fun i hi => ?_, fun s hs hd => ?_⟩
    · by_cases e : i = tu
      · subst e; exact nrow
      · exact a' i (by omega)
    · by_cases e1 : i = tu <;> by_cases e2 : j = tu
      · omega
      · exfalso
        refine (c' j (by omega)).2 (fun k hk => ?_)
        rw [← lo j _ (by omega) (c14 (hba k hk)), ← e (ba k) (hba k hk), e1, ntup k hk]
      · exfalso
        refine (c' i (by omega)).2 (fun k hk => ?_)
        rw [← lo i _ (by omega) (c14 (hba k hk)), e (ba k) (hba k hk), e2, ntup k hk]
      · refine b i j (by omega) (by omega) (fun p hp => ?_)
        rw [← lo i p (by omega) (c14 hp), ← lo j p (by omega) (c14 hp)]; exact e p hp
    · by_cases e : i = tu
      · subst e; exact Or.inr ntup
      · exact (c' i (by omega)).1
    · rcases d' s hs hd with ⟨i, i1, i2⟩ | e
      · exact ⟨i, by omega, fun p hp => by rw [lo i p i1 (c14 hp)]; exact i2 p hp⟩
      · exact ⟨tu, by omega, fun p hp => by rw [new p hp.1]; exact same s hs e p hp⟩
  · refine ⟨a', fun i j hi hj e => b i j hi hj (fun p hp => by rw [← lo i p hi (c14 hp), ← lo j p hj (c14 hp)]; exact e p hp), fun i hi => (c' i hi).1, fun s hs hd => ?_⟩
    rcases d' s hs hd with ⟨i, i1, i2⟩ | e
    · exact ⟨i, i1, fun p hp => by rw [lo i p i1 (c14 hp)]; exact i2 p hp⟩
    · exfalso
      apply hna
      intro x hx
      obtain ⟨p, hp, rfl⟩ := sy_surj hD hs hx
      exact ⟨p, hp.1, same s hs e p hp⟩
section ME
variable {h : xHp} {m : Nat} {P : Nat → V3} {bu tb fl co fa : Nat} {fb fs fr : Nat → Nat} {nn : Nat → V3} {lv : Nat → Int} {a : V3} {fat : Nat → Nat} {w : Int × V3} {cm : Int} {cX cY cZ cD su sv : Nat → Int} {tu : Nat} {im : Nat → Int} {rk ba : Nat → Nat} {go : Nat → Int}
variable {n : Nat} {hh : xHp}
set_option maxRecDepth 10000 in
set_option maxHeartbeats 1000000 in
theorem m_addTurn (hS : SF P m (fl, co, fa, fb, fs, fr, nn, lv, fat)) (hba : ∀ k, k < 4 → ba k < 14) (g : Nat → Nat) (hgo : ∀ k, k < 4 → go k = (g k : Int) ∧ g k < 14) (hf : fitG P ba g) (hbx : bxs P (ba 0) (ba 1) (ba 2) (ba 3) ≠ 0) (ht : tu ≤ 48) : xCall xmX6_addTurn 4 0 0 [.ref 64] n (mdH h m P bu tb fl co fa fb fs fr nn lv a fat w cm cX cY cZ cD su sv tu im rk ba go) (fun res n' h' => res = none ∧ n' = n ∧ ∃ tu', (((∀ x : Nat, isCor P m x → ∃ p, p < m ∧ imQ P m ba g p = (x : Int)) ∧ tu' = tu + 1) ∨ (¬ (∀ x : Nat, isCor P m x → ∃ p, p < m ∧ imQ P m ba g p = (x : Int)) ∧ tu' = tu)) ∧ h' = (mdH h m P bu tb fl co fa fb fs fr nn lv a fat w cm cX cY cZ cD su sv (tu') (wrI im tu (imQ P m ba g) m) rk ba go)) := by
  obtain ⟨_, ⟨hm, hb, hD⟩, hs, hA, hco, hbd, hmt, hrn⟩ := SF_u hS
  refine xCall.of xgX6_addTurn rfl ?_
  refine tt_op rfl rfl ?_
  refine tt_op rfl rfl ?_
  refine tt_op rfl rfl ?_
  refine tt_op rfl rfl ?_
  have loop : ∀ (j k B : Nat) (l3 : Option Value), k + j = m → (∀ x, B.testBit x = true ↔ ∃ p, p < k ∧ imQ P m ba g p = (x : Int)) → B < 16384 → xT xmX6_addTurn (4, 0, 0, 0, 0) 4 [some (.ref 64), some (zI B), some (zI k), l3] [] n (mdH h m P bu tb fl co fa fb fs fr nn lv a fat w cm cX cY cZ cD su sv tu (wrI im tu (imQ P m ba g) k) rk ba go) (fun res n' h' => res = none ∧ n' = n ∧ ∃ tu', (((∀ x : Nat, isCor P m x → ∃ p, p < m ∧ imQ P m ba g p = (x : Int)) ∧ tu' = tu + 1) ∨ (¬ (∀ x : Nat, isCor P m x → ∃ p, p < m ∧ imQ P m ba g p = (x : Int)) ∧ tu' = tu)) ∧ h' = (mdH h m P bu tb fl co fa fb fs fr nn lv a fat w cm cX cY cZ cD su sv (tu') (wrI im tu (imQ P m ba g) m) rk ba go)) := by
    intro j
    induction j with
    | zero =>
      intro k B l3 hk hB hB2
      have : k = m := by omega
      subst this
      have hco1 := hco.1
      have eqv : B = co ↔ ∀ x : Nat, isCor P k x → ∃ p, p < k ∧ imQ P k ba g p = (x : Int) := by
        constructor
        · intro e x hx
          exact (hB x).1 (by rw [e]; exact (hco.2 x).2 hx)
        · intro e
          refine bits_eq (fun x => ?_)
          rw [hB, hco.2]
          constructor
          · rintro ⟨p, p1, p2⟩
            rcases imQ_spec (P := P) (m := k) ba g p with q | q
            · omega
            · have := q.2.2.1; rw [p2, Int.toNat_natCast] at this; exact this
          · exact e x
      refine tt_op rfl rfl ?_
      refine tt_op rfl rfl ?_
      refine tt_get rfl md64 (by rfl) ?_
      refine z_icmp rfl (by first | assumption | (unfold R3; omega)) (by first | assumption | (unfold R3; omega)) (fun c => ?_) (fun c => absurd (by simp only [zcd] <;> omega) c)
      refine tt_op rfl rfl ?_
      refine tt_op rfl rfl ?_
      refine tt_get rfl md64 (by rfl) ?_
      refine tt_op rfl rfl ?_
      refine tt_op rfl rfl ?_
      refine tt_get rfl md64 (by rfl) ?_
      refine z_icmp rfl (by first | assumption | (unfold R3; omega)) (by first | assumption | (unfold R3; omega)) (fun c1 => ?_) (fun c1 => ?_)
      · simp only [zcd] at c1
        have hne : B ≠ co := by omega
        refine tt_op rfl rfl ?_
        refine z_iadd rfl ?_
        rw [Int.add_zero]
        refine md_ptu (x := tu) rfl (by decide) ?_
        refine tt_return rfl rfl (Nat.le_of_ble_eq_true rfl) (Nat.le_of_ble_eq_true rfl) ?_
        exact ⟨rfl, rfl, tu, Or.inr ⟨fun e => hne (eqv.2 e), rfl⟩, rfl⟩
      · simp only [zcd] at c1
        have he : B = co := by omega
        refine tt_op rfl rfl ?_
        refine tt_goto rfl ?_
        refine z_iadd rfl ?_
        refine md_ptu (x := tu + 1) rfl (by decide) ?_
        refine tt_return rfl rfl (Nat.le_of_ble_eq_true rfl) (Nat.le_of_ble_eq_true rfl) ?_
        exact ⟨rfl, rfl, tu + 1, Or.inl ⟨eqv.1 he, rfl⟩, rfl⟩
    | succ j ih =>
      intro k B l3 hk hB hB2
      have fin : ∀ q : Int, q = imQ P m ba g k → xT xmX6_addTurn (4, 0, 0, 0, 0) 29 [some (.ref 64), some (zI B), some (zI k), l3] [zI q] n (mdH h m P bu tb fl co fa fb fs fr nn lv a fat w cm cX cY cZ cD su sv tu (wrI im tu (imQ P m ba g) k) rk ba go) (fun res n' h' => res = none ∧ n' = n ∧ ∃ tu', (((∀ x : Nat, isCor P m x → ∃ p, p < m ∧ imQ P m ba g p = (x : Int)) ∧ tu' = tu + 1) ∨ (¬ (∀ x : Nat, isCor P m x → ∃ p, p < m ∧ imQ P m ba g p = (x : Int)) ∧ tu' = tu)) ∧ h' = (mdH h m P bu tb fl co fa fb fs fr nn lv a fat w cm cX cY cZ cD su sv (tu') (wrI im tu (imQ P m ba g) m) rk ba go)) := by
        intro q hq
        have step := wrI_s im tu (imQ P m ba g) k
        rw [← hq] at step
        rcases imQ_spec (P := P) (m := m) ba g k with e | e
        · have hq1 : q = -1 := hq.trans e
          subst hq1
          refine tt_op rfl rfl ?_
          refine tt_op rfl rfl ?_
          refine tt_get rfl md64 (by rfl) ?_
          refine tt_op rfl rfl ?_
          refine tt_op rfl rfl ?_
          refine tt_get rfl md64 (by rfl) ?_
          refine z_imul rfl ?_
          refine tt_op rfl rfl ?_
          refine z_iadd rfl ?_
          refine tt_op rfl rfl ?_
          refine md_s82 (j := 14 * tu + k) rfl (by omega) (by omega) ?_
          rw [step]
          refine tt_op rfl rfl ?_
          refine tt_op rfl rfl ?_
          refine z_if rfl (by first | assumption | (unfold R3; omega)) (fun c => absurd c (by simp only [zcd] <;> omega)) (fun c => ?_)
          refine tt_op rfl rfl ?_
          refine tt_goto rfl ?_
          refine z_ior rfl ?_
          refine tt_op rfl rfl ?_
          refine z_iinc rfl rfl rfl ?_
          refine tt_goto rfl ?_
          rw [Nat.or_zero]
          refine ih (k + 1) B _ (by omega) (fun x => ?_) hB2
          rw [hB]
          constructor
          · rintro ⟨p, p1, p2⟩; exact ⟨p, by omega, p2⟩
          · rintro ⟨p, p1, p2⟩
            refine ⟨p, ?_, p2⟩
            have : p ≠ k := by rintro rfl; omega
            omega
        · obtain ⟨y, hy⟩ : ∃ y : Nat, imQ P m ba g k = (y : Int) := ⟨(imQ P m ba g k).toNat, by omega⟩
          have cy : isCor P m y := by have := e.2.2.1; rw [hy, Int.toNat_natCast] at this; exact this
          have y14 : y < 14 := by have := cy.1; omega
          have hq2 : q = (y : Int) := hq.trans hy
          subst hq2
          refine tt_op rfl rfl ?_
          refine tt_op rfl rfl ?_
          refine tt_get rfl md64 (by rfl) ?_
          refine tt_op rfl rfl ?_
          refine tt_op rfl rfl ?_
          refine tt_get rfl md64 (by rfl) ?_
          refine z_imul rfl ?_
          refine tt_op rfl rfl ?_
          refine z_iadd rfl ?_
          refine tt_op rfl rfl ?_
          refine md_s82 (j := 14 * tu + k) rfl (by omega) (by omega) ?_
          rw [step]
          refine tt_op rfl rfl ?_
          refine tt_op rfl rfl ?_
          refine z_if rfl (by first | assumption | (unfold R3; omega)) (fun c => ?_) (fun c => absurd (by simp only [zcd] <;> omega) c)
          refine tt_op rfl rfl ?_
          refine tt_op rfl rfl ?_
          refine z_shl1 rfl (by omega) ?_
          refine z_ior rfl ?_
          refine tt_op rfl rfl ?_
          refine z_iinc rfl rfl rfl ?_
          refine tt_goto rfl ?_
          refine ih (k + 1) (B ||| 2 ^ y) _ (by omega) (fun x => ?_) (bits_or hB2 (bits_pow y14))
          rw [tb_or, Bool.or_eq_true, hB, decide_eq_true_eq]
          constructor
          · rintro (⟨p, p1, p2⟩ | e3)
            · exact ⟨p, by omega, p2⟩
            · exact ⟨k, by omega, by rw [hy, e3]⟩
          · rintro ⟨p, p1, p2⟩
            by_cases e3 : p = k
            · subst e3; exact Or.inr (by omega)
            · exact Or.inl ⟨p, by omega, p2⟩
      refine tt_op rfl rfl ?_
      refine tt_op rfl rfl ?_
      refine tt_get rfl md64 (by rfl) ?_
      refine z_icmp rfl (by first | assumption | (unfold R3; omega)) (by first | assumption | (unfold R3; omega)) (fun c => absurd c (by simp only [zcd] <;> omega)) (fun c => ?_)
      refine tt_op rfl rfl ?_
      refine tt_op rfl rfl ?_
      by_cases ck : isCor P m k
      · refine tt_pV rfl rfl rfl md64 rfl (m_isC hS (show k < 14 by omega) (zI 1) (fun _ => rfl) (fun e => absurd ck e)) ?_
        refine z_if rfl (by first | assumption | (unfold R3; omega)) (fun c => absurd c (by simp only [zcd] <;> omega)) (fun c => ?_)
        refine tt_op rfl rfl ?_
        refine tt_op rfl rfl ?_
        refine tt_pV rfl rfl rfl md64 rfl (m_imageOf hS hba g hgo hf hbx ck) ?_
        refine tt_goto rfl ?_
        exact fin _ rfl
      · refine tt_pV rfl rfl rfl md64 rfl (m_isC hS (show k < 14 by omega) (zI 0) (fun e => absurd e ck) (fun _ => rfl)) ?_
        refine z_if rfl (by first | assumption | (unfold R3; omega)) (fun c => ?_) (fun c => absurd (by simp only [zcd] <;> omega) c)
        refine tt_op rfl rfl ?_
        exact fin (-1) (imQ_no (fun e => ck e.1)).symm
  have t := loop m 0 0 none (by omega) (fun x => by simp) (by omega)
  rw [wrI_0] at t
  exact t
set_option maxRecDepth 10000 in
set_option maxHeartbeats 2000000 in
theorem m_tryGoals (hS : SF P m (fl, co, fa, fb, fs, fr, nn, lv, fat)) (hg : g4 P m (ba 0) (ba 1) (ba 2) (ba 3)) : xCall xmX6_tryGoals 5 0 0 [.ref 64] n (mdH h m P bu tb fl co fa fb fs fr nn lv a fat w cm cX cY cZ cD su sv (0) im rk ba go) (fun res n' h' => res = none ∧ n' = n ∧ ∃ tu' im' go', TI P m ba 0 go' tu' im' ∧ h' = (mdH h m P bu tb fl co fa fb fs fr nn lv a fat w cm cX cY cZ cD su sv (tu') (im') rk ba (go'))) := by
  obtain ⟨_, ⟨hm, hb, hD⟩, hs, hA, hco, hbd, hmt, hrn⟩ := SF_u hS
  have hb' : ∀ j, j < m → vbd 20 (P j) := fun j hj => hb j (by omega)
  have hbc : ∀ k, k < 4 → isCor P m (ba k) := by
    intro k hk
    have : k = 0 ∨ k = 1 ∨ k = 2 ∨ k = 3 := by omega
    rcases this with rfl | rfl | rfl | rfl
    · exact hg.1
    · exact hg.2.1
    · exact hg.2.2.1
    · exact hg.2.2.2.1
  have hba : ∀ k, k < 4 → ba k < 14 := fun k hk => by have := (hbc k hk).1; omega
  have loop : ∀ (f L : Nat) (g : Nat → Int) (tu : Nat) (im : Nat → Int) (l1 : Int), l1 = (L : Int) - 1 → L ≤ 4 → Wm m L g < (f : Int) → (∀ i, i < L → -1 ≤ g i ∧ g i < m) → (∀ i, i + 1 < L → 0 ≤ g i ∧ isCor P m (g i).toNat) → (∀ i j, i + 1 < L → j + 1 < L → dst P (g i).toNat (g j).toNat = dst P (ba i) (ba j)) → TI P m ba L g tu im → xT xmX6_tryGoals (5, 0, 0, 0, 0) 9 [some (.ref 64), some (zI l1)] [] n (mdH h m P bu tb fl co fa fb fs fr nn lv a fat w cm cX cY cZ cD su sv (tu) (im) rk ba (g)) (fun res n' h' => res = none ∧ n' = n ∧ ∃ tu' im' go', TI P m ba 0 go' tu' im' ∧ h' = (mdH h m P bu tb fl co fa fb fs fr nn lv a fat w cm cX cY cZ cD su sv (tu') (im') rk ba (go'))) := by
    intro f
    induction f with
    | zero =>
      intro L g tu im l1 hl1 hL hW h1 h2 h3 hT
      exfalso
      have p0 : 0 < L → -1 ≤ g 0 ∧ g 0 < m := fun h => h1 0 h
      have p1 : 1 < L → -1 ≤ g 1 ∧ g 1 < m := fun h => h1 1 h
      have p2 : 2 < L → -1 ≤ g 2 ∧ g 2 < m := fun h => h1 2 h
      have p3 : 3 < L → -1 ≤ g 3 ∧ g 3 < m := fun h => h1 3 h
      unfold Wm at hW
      split at hW <;> split at hW <;> split at hW <;> split at hW <;> omega
    | succ f ih =>
      intro L g tu im l1 hl1 hL hW h1 h2 h3 hT
      rcases Nat.eq_zero_or_pos L with hL0 | hL0
      · subst hL0
        refine tt_op rfl rfl ?_
        refine z_if rfl (by first | assumption | (unfold R3; omega)) (fun c => ?_) (fun c => absurd (by simp only [zcd] <;> omega) c)
        refine tt_return rfl rfl (Nat.le_of_ble_eq_true rfl) (Nat.le_of_ble_eq_true rfl) ?_
        exact ⟨rfl, rfl, tu, im, g, hT, rfl⟩
      obtain ⟨M, rfl⟩ : ∃ M, L = M + 1 := ⟨L - 1, by omega⟩
      have : l1 = (M : Int) := by omega
      subst this
      obtain ⟨gl, gu⟩ := h1 M (by omega)
      have h48 := TI_cap hm hb' hD hs hT
      -- the next goal at this place
      generalize hg' : zup g M (g M + 1) = g'
      have gM : g' M = g M + 1 := by rw [← hg', zup_at]
      have gi : ∀ i, i ≠ M → g' i = g i := fun i hi => by rw [← hg', zup_of _ _ hi]
      have Wdec : ∀ g2 : Nat → Int, (∀ i, i < M → g2 i = g i) → g2 M = g M + 1 → Wm m (M + 1) g2 < (f : Int) := by
        intro g2 e1 e2
        have : M = 0 ∨ M = 1 ∨ M = 2 ∨ M = 3 := by omega
        unfold Wm at hW ⊢
        rcases this with rfl | rfl | rfl | rfl
        · simp only [Nat.zero_add, Nat.lt_irrefl, if_false, if_pos, Nat.zero_lt_one, show ¬ (1 < 1) by omega, show ¬ (2 < 1) by omega, show ¬ (3 < 1) by omega] at hW ⊢
          omega
        · have := e1 0 (by omega)
          simp only [show 0 < 1 + 1 by omega, show 1 < 1 + 1 by omega, show ¬ (2 < 1 + 1) by omega, show ¬ (3 < 1 + 1) by omega, if_true, if_false] at hW ⊢
          omega
        · have := e1 0 (by omega); have := e1 1 (by omega)
          simp only [show 0 < 2 + 1 by omega, show 1 < 2 + 1 by omega, show 2 < 2 + 1 by omega, show ¬ (3 < 2 + 1) by omega, if_true, if_false] at hW ⊢
          omega
        · have := e1 0 (by omega); have := e1 1 (by omega); have := e1 2 (by omega)
          simp only [show 0 < 3 + 1 by omega, show 1 < 3 + 1 by omega, show 2 < 3 + 1 by omega, show 3 < 3 + 1 by omega, if_true, if_false] at hW ⊢
          omega
      have again : ∀ (tu' : Nat) (im' : Nat → Int), g M + 1 < m → TI P m ba (M + 1) g' tu' im' → xT xmX6_tryGoals (5, 0, 0, 0, 0) 9 [some (.ref 64), some (zI (M : Int))] [] n (mdH h m P bu tb fl co fa fb fs fr nn lv a fat w cm cX cY cZ cD su sv (tu') (im') rk ba (g')) (fun res n' h' => res = none ∧ n' = n ∧ ∃ tu' im' go', TI P m ba 0 go' tu' im' ∧ h' = (mdH h m P bu tb fl co fa fb fs fr nn lv a fat w cm cX cY cZ cD su sv (tu') (im') rk ba (go'))) := by
        intro tu' im' hlt hT'
        refine ih (M + 1) g' tu' im' M (by omega) (by omega) (Wdec g' (fun i hi => gi i (by omega)) gM) (fun i hi => ?_) (fun i hi => by rw [gi i (by omega)]; exact h2 i hi) (fun i j hi hj => by rw [gi i (by omega), gi j (by omega)]; exact h3 i j hi hj) hT'
        by_cases e : i = M
        · subst e; rw [gM]; omega
        · rw [gi i e]; exact h1 i hi
      refine tt_op rfl rfl ?_
      refine z_if rfl (by first | assumption | (unfold R3; omega)) (fun c => absurd c (by simp only [zcd] <;> omega)) (fun c => ?_)
      refine tt_op rfl rfl ?_
      refine tt_get rfl md64 (by rfl) ?_
      refine tt_op rfl rfl ?_
      refine tt_op rfl rfl ?_
      refine z_iald (j := M) rfl md85 rfl (by omega) (by decide) ?_
      refine tt_op rfl rfl ?_
      refine z_iadd rfl ?_
      refine md_s85 (j := M) rfl rfl (by omega) ?_
      rw [hg']
      refine tt_op rfl rfl ?_
      refine tt_get rfl md64 (by rfl) ?_
      refine tt_op rfl rfl ?_
      refine z_iald (j := M) rfl md85 rfl (by omega) (by decide) ?_
      rw [gM]
      refine tt_op rfl rfl ?_
      refine tt_get rfl md64 (by rfl) ?_
      refine z_icmp rfl (by first | assumption | (unfold R3; omega)) (by first | assumption | (unfold R3; omega)) (fun c1 => ?_) (fun c1 => ?_)
      rotate_left
      · -- the row is through
        simp only [zcd] at c1
        have hgm : g M + 1 = m := by omega
        refine z_iinc rfl rfl rfl ?_
        refine tt_goto rfl ?_
        have hT2 := TI_pop (hbc M (by omega)) hT hgm
        rw [hg'] at hT2
        refine ih M g' tu im _ (by omega) (by omega) ?_ (fun i hi => by rw [gi i (by omega)]; exact h1 i (by omega)) (fun i hi => by rw [gi i (by omega)]; exact h2 i (by omega)) (fun i j hi hj => by rw [gi i (by omega), gi j (by omega)]; exact h3 i j (by omega) (by omega)) hT2
        have : M = 0 ∨ M = 1 ∨ M = 2 ∨ M = 3 := by omega
        unfold Wm at hW ⊢
        rcases this with rfl | rfl | rfl | rfl
        · simp only [show 0 < 0 + 1 by omega, show ¬ (1 < 0 + 1) by omega, show ¬ (2 < 0 + 1) by omega, show ¬ (3 < 0 + 1) by omega, show ¬ (0 < 0) by omega, show ¬ (1 < 0) by omega, show ¬ (2 < 0) by omega, show ¬ (3 < 0) by omega, if_true, if_false] at hW ⊢
          omega
        · have := gi 0 (by omega)
          simp only [show 0 < 1 + 1 by omega, show 1 < 1 + 1 by omega, show ¬ (2 < 1 + 1) by omega, show ¬ (3 < 1 + 1) by omega, show 0 < 1 by omega, show ¬ (1 < 1) by omega, show ¬ (2 < 1) by omega, show ¬ (3 < 1) by omega, if_true, if_false] at hW ⊢
          omega
        · have := gi 0 (by omega); have := gi 1 (by omega)
          simp only [show 0 < 2 + 1 by omega, show 1 < 2 + 1 by omega, show 2 < 2 + 1 by omega, show ¬ (3 < 2 + 1) by omega, show 0 < 2 by omega, show 1 < 2 by omega, show ¬ (2 < 2) by omega, show ¬ (3 < 2) by omega, if_true, if_false] at hW ⊢
          omega
        · have := gi 0 (by omega); have := gi 1 (by omega); have := gi 2 (by omega)
          simp only [show 0 < 3 + 1 by omega, show 1 < 3 + 1 by omega, show 2 < 3 + 1 by omega, show 3 < 3 + 1 by omega, show 0 < 3 by omega, show 1 < 3 by omega, show 2 < 3 by omega, show ¬ (3 < 3) by omega, if_true, if_false] at hW ⊢
          omega
      simp only [zcd] at c1
      have hlt : g M + 1 < m := by omega
      obtain ⟨x, hx⟩ : ∃ x : Nat, g M + 1 = (x : Int) := ⟨(g M + 1).toNat, by omega⟩
      have x14 : x < 14 := by omega
      have skip : (∀ s, sy P m s → ¬ ∀ i, i < M + 1 → (s (ba i) : Int) = g' i) → xT xmX6_tryGoals (5, 0, 0, 0, 0) 9 [some (.ref 64), some (zI (M : Int))] [] n (mdH h m P bu tb fl co fa fb fs fr nn lv a fat w cm cX cY cZ cD su sv (tu) (im) rk ba (g')) (fun res n' h' => res = none ∧ n' = n ∧ ∃ tu' im' go', TI P m ba 0 go' tu' im' ∧ h' = (mdH h m P bu tb fl co fa fb fs fr nn lv a fat w cm cX cY cZ cD su sv (tu') (im') rk ba (go'))) := by
        intro hno
        have := TI_skip hT (by rw [hg']; exact hno)
        rw [hg'] at this
        exact again tu im hlt this
      refine tt_op rfl rfl ?_
      refine tt_op rfl rfl ?_
      refine tt_get rfl md64 (by rfl) ?_
      refine tt_op rfl rfl ?_
      refine z_iald (j := M) rfl md85 rfl (by omega) (by decide) ?_
      rw [gM, hx]
      by_cases cx : isCor P m x
      rotate_left
      · refine tt_pV rfl rfl rfl md64 rfl (m_isC hS x14 (zI 0) (fun e => absurd e cx) (fun _ => rfl)) ?_
        refine z_if rfl (by first | assumption | (unfold R3; omega)) (fun c => ?_) (fun c => absurd (by simp only [zcd] <;> omega) c)
        refine skip (fun s hs e => cx ?_)
        have := e M (by omega)
        rw [gM, hx] at this
        have e2 : s (ba M) = x := by omega
        rw [← e2]; exact hs.1 _ (hbc M (by omega))
      refine tt_pV rfl rfl rfl md64 rfl (m_isC hS x14 (zI 1) (fun _ => rfl) (fun e => absurd cx e)) ?_
      refine z_if rfl (by first | assumption | (unfold R3; omega)) (fun c => absurd c (by simp only [zcd] <;> omega)) (fun c => ?_)
      have hgn : ∀ k, k ≤ M → g' k = ((g' k).toNat : Int) ∧ (g' k).toNat < 14 := by
        intro k hk
        by_cases e : k = M
        · subst e; rw [gM, hx]; omega
        · rw [gi k e]
          have a1 := h2 k (by omega)
          have a2 := h1 k (by omega)
          omega
      have gMn : (g' M).toNat = x := by rw [gM, hx]; omega
      refine tt_op rfl rfl ?_
      refine tt_op rfl rfl ?_
      refine tt_op rfl rfl ?_
      refine z_iadd rfl ?_
      by_cases hfit : ∀ k, k < M → dst P (ba k) (ba M) = dst P (g' k).toNat (g' M).toNat
      rotate_left
      · refine tt_pV rfl rfl rfl md64 rfl (m_fits hb (M := M) (by omega) hba (fun k => (g' k).toNat) hgn (zI 0) (fun e => absurd e hfit) (fun _ => rfl)) ?_
        refine z_if rfl (by first | assumption | (unfold R3; omega)) (fun c => ?_) (fun c => absurd (by simp only [zcd] <;> omega) c)
        refine skip (fun s hs e => hfit (fun k hk => ?_))
        have e1 := e k (by omega)
        have e2 := e M (by omega)
        have e3 : (g' k).toNat = s (ba k) := by omega
        have e4 : (g' M).toNat = s (ba M) := by omega
        rw [e3, e4]
        exact (hs.2 _ _ (hbc k (by omega)) (hbc M (by omega))).symm
      refine tt_pV rfl rfl rfl md64 rfl (m_fits hb (M := M) (by omega) hba (fun k => (g' k).toNat) hgn (zI 1) (fun _ => rfl) (fun e => absurd hfit e)) ?_
      refine z_if rfl (by first | assumption | (unfold R3; omega)) (fun c => absurd c (by simp only [zcd] <;> omega)) (fun c => ?_)
      refine tt_op rfl rfl ?_
      refine tt_op rfl rfl ?_
      by_cases hM3 : M = 3
      · subst hM3
        refine z_icmp rfl (by first | assumption | (unfold R3; omega)) (by first | assumption | (unfold R3; omega)) (fun c => absurd c (by simp only [zcd] <;> omega)) (fun c => ?_)
        refine tt_op rfl rfl ?_
        have hff : fitG P ba (fun k => (g' k).toNat) := by
          intro i j hi hj
          show dst P (g' i).toNat (g' j).toNat = dst P (ba i) (ba j)
          by_cases e1 : i = 3 <;> by_cases e2 : j = 3
          · rw [e1, e2, dst_self, dst_self]
          · have := hfit j (by omega)
            rw [e1, dst_comm P (g' 3).toNat, dst_comm P (ba 3)]; exact this.symm
          · have := hfit i (by omega)
            rw [e2]; exact this.symm
          · rw [gi i e1, gi j e2]; exact h3 i j (by omega) (by omega)
        have hgc : ∀ k, k < 4 → isCor P m (g' k).toNat := by
          intro k hk
          by_cases e : k = 3
          · subst e; rw [gMn]; exact cx
          · rw [gi k e]; exact (h2 k (by omega)).2
        refine tt_callV (M' := xmX6_addTurn) rfl rfl rfl md64 rfl (m_addTurn hS hba (fun k => (g' k).toNat) (fun k hk => hgn k (by omega)) hff hg.2.2.2.2 h48) ?_
        rintro res n' h' ⟨rfl, rfl, tu', ht', rfl⟩
        refine tt_goto rfl ?_
        have hT2 := TI_add hm hD hbc hg.2.2.2.2 hT (G := fun k => (g' k).toNat) (fun k hk => by rw [hg']; exact (hgn k (by omega)).1) hgc hff ht'
        rw [hg'] at hT2
        exact again tu' _ hlt hT2
      · have hM2 : M < 3 := by omega
        refine z_icmp rfl (by first | assumption | (unfold R3; omega)) (by first | assumption | (unfold R3; omega)) (fun c => ?_) (fun c => absurd (by simp only [zcd] <;> omega) c)
        refine z_iinc rfl rfl rfl ?_
        refine tt_op rfl rfl ?_
        refine tt_get rfl md64 (by rfl) ?_
        refine tt_op rfl rfl ?_
        refine tt_op rfl rfl ?_
        refine md_s85 (j := M + 1) rfl (by omega) (by omega) ?_
        refine tt_goto rfl ?_
        have hT2 := TI_push hT
        rw [hg'] at hT2
        have n1 : ∀ i, i ≠ M + 1 → zup g' (M + 1) (-1) i = g' i := fun i hi => zup_of _ _ hi
        have n2 : zup g' (M + 1) (-1) (M + 1) = -1 := zup_at _ _ _
        refine ih (M + 2) (zup g' (M + 1) (-1)) tu im _ (by omega) (by omega) ?_ (fun i hi => ?_) (fun i hi => ?_) (fun i j hi hj => ?_) hT2
        · have : M = 0 ∨ M = 1 ∨ M = 2 := by omega
          unfold Wm at hW ⊢
          rcases this with rfl | rfl | rfl
          · have q0 := n1 0 (by omega)
            simp only [show 0 < 0 + 1 by omega, show ¬ (1 < 0 + 1) by omega, show ¬ (2 < 0 + 1) by omega, show ¬ (3 < 0 + 1) by omega, show 0 < 0 + 2 by omega, show 1 < 0 + 2 by omega, show ¬ (2 < 0 + 2) by omega, show ¬ (3 < 0 + 2) by omega, if_true, if_false] at hW ⊢
            have n2' : zup g' (0 + 1) (-1) 1 = -1 := n2
            rw [q0, gM, n2']
            omega
          · have q0 := n1 0 (by omega); have q1 := n1 1 (by omega); have g0 := gi 0 (by omega)
            simp only [show 0 < 1 + 1 by omega, show 1 < 1 + 1 by omega, show ¬ (2 < 1 + 1) by omega, show ¬ (3 < 1 + 1) by omega, show 0 < 1 + 2 by omega, show 1 < 1 + 2 by omega, show 2 < 1 + 2 by omega, show ¬ (3 < 1 + 2) by omega, if_true, if_false] at hW ⊢
            have n2' : zup g' (1 + 1) (-1) 2 = -1 := n2
            rw [q0, q1, gM, n2', g0]
            omega
          · have q0 := n1 0 (by omega); have q1 := n1 1 (by omega); have q2 := n1 2 (by omega); have g0 := gi 0 (by omega); have g1 := gi 1 (by omega)
            simp only [show 0 < 2 + 1 by omega, show 1 < 2 + 1 by omega, show 2 < 2 + 1 by omega, show ¬ (3 < 2 + 1) by omega, show 0 < 2 + 2 by omega, show 1 < 2 + 2 by omega, show 2 < 2 + 2 by omega, show 3 < 2 + 2 by omega, if_true, if_false] at hW ⊢
            have n2' : zup g' (2 + 1) (-1) 3 = -1 := n2
            rw [q0, q1, q2, gM, n2', g0, g1]
            omega
        · by_cases e : i = M + 1
          · rw [e, n2]; omega
          · rw [n1 i e]
            by_cases e2 : i = M
            · rw [e2, gM]; omega
            · rw [gi i e2]; exact h1 i (by omega)
        · rw [n1 i (by omega)]
          by_cases e2 : i = M
          · rw [e2, gMn]; exact ⟨by rw [gM]; omega, cx⟩
          · rw [gi i e2]; exact h2 i (by omega)
        · rw [n1 i (by omega), n1 j (by omega)]
          by_cases e1 : i = M <;> by_cases e2 : j = M
          · rw [e1, e2, dst_self, dst_self]
          · have := hfit j (by omega)
            rw [e1, dst_comm P (g' M).toNat, dst_comm P (ba M)]; exact this.symm
          · have := hfit i (by omega)
            rw [e2]; exact this.symm
          · rw [gi i e1, gi j e2]; exact h3 i j (by omega) (by omega)
  refine xCall.of xgX6_tryGoals rfl ?_
  refine tt_op rfl rfl ?_
  refine tt_op rfl rfl ?_
  refine tt_op rfl rfl ?_
  refine tt_get rfl md64 (by rfl) ?_
  refine tt_op rfl rfl ?_
  refine tt_op rfl rfl ?_
  refine md_s85 (j := 0) rfl rfl (by decide) ?_
  have z0 : zup go 0 (-1) 0 = -1 := zup_at _ _ _
  refine loop 2000000 1 (zup go 0 (-1)) 0 im 0 rfl (by omega) ?_ (fun i hi => ?_) (fun i hi => by omega) (fun i j hi => by omega) ⟨fun i hi => by omega, fun i j hi => by omega, fun i hi => by omega, fun s hs hd => ?_⟩
  · unfold Wm
    simp only [show 0 < 1 by omega, show ¬ (1 < 1) by omega, show ¬ (2 < 1) by omega, show ¬ (3 < 1) by omega, if_true, if_false]
    rw [z0]; omega
  · rw [show i = 0 by omega, z0]; omega
  · exfalso
    unfold dnL at hd; dsimp only at hd
    rcases hd with ⟨j, j1, _, j3⟩ | e
    · rw [show j = 0 by omega, z0] at j3; omega
    · have := e 0 (by omega); rw [z0] at this; omega
end ME
