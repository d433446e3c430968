/-- the points that bits name -/
def bA2 (S k : Nat) : Prop := k < 14 ∧ S.testBit k = true
theorem flR_spec {P : Nat → V3} {S : Nat} {d : V3} (hd : d ≠ vO) {p : Nat} (hp : expo P (bA2 S) d p) : ∀ (k r q : Nat) (w : Int), r + k = 14 →
    ((w = 0 ∧ ∀ r', r' < r → bA2 S r' → sam P d p r') ∨ (w = spr P p q d ∧ bA2 S q ∧ ¬ sam P d p q ∧ ∀ r', r' < r → bA2 S r' → ¬ sam P d p r' → 0 < swg P p q r' d ∨ (swg P p q r' d = 0 ∧ spr P p r' d ≤ spr P p q d))) →
    (∃ r, bA2 S r ∧ ¬ sam P d p r) → nxt P (bA2 S) d p (flR P d S p k r q w)
  | 0, r, q, w, hr, hI, hex => by
    simp only [flR]
    rcases hI with ⟨_, h⟩ | ⟨_, h1, h2, h3⟩
    · obtain ⟨r', a, b⟩ := hex
      exact absurd (h r' (by have := a.1; omega) a) b
    · exact ⟨h1, h2, fun r' hr' ns => h3 r' (by have := hr'.1; omega) hr' ns⟩
  | k + 1, r, q, w, hr, hI, hex => by
    obtain ⟨hAp, c, c1, c2⟩ := hp
    have hp : expo P (bA2 S) d p := ⟨hAp, c, c1, c2⟩
    simp only [flR]
    split
    · rename_i hc
      obtain ⟨b1, b2, b3⟩ := hc
      have hAr : bA2 S r := ⟨by omega, b1⟩
      have nr : ¬ sam P d p r := b2
      refine flR_spec hd hp k (r + 1) r _ (by omega) (Or.inr ⟨rfl, hAr, nr, fun r' hr' hA' ns => ?_⟩) hex
      by_cases e : r' = r
      · subst e; right; exact ⟨swg_pp .., Int.le_refl _⟩
      have hlt : r' < r := by omega
      rcases hI with ⟨_, h⟩ | ⟨h0, h1, h2, h3⟩
      · exact absurd (h r' hlt hA') ns
      · have cq := (c2 q h1).resolve_left h2
        have cr := (c2 r hAr).resolve_left nr
        have cr' := (c2 r' hA').resolve_left ns
        have w0 : w ≠ 0 := by rw [h0]; exact h2
        have pl := pl1 P c1 p r r' q
        have an := swg_anti P p q r d
        have g := h3 r' hlt hA' ns
        rcases b3 with b3 | b3 | b3
        · exact absurd b3 w0
        · left
          have t1 : swg P p q r' d * (dot c (P r) - dot c (P p)) ≤ 0 := Int.mul_nonpos_of_nonneg_of_nonpos (by rcases g with g | g <;> omega) (by omega)
          have t2 : swg P p r q d * (dot c (P r') - dot c (P p)) < 0 := Int.mul_neg_of_pos_of_neg (by omega) (by omega)
          rcases Int.lt_or_le 0 (swg P p r r' d) with e | e
          · exact e
          · have := Int.mul_nonneg_of_nonpos_of_nonpos e (show dot c (P q) - dot c (P p) ≤ 0 by omega); omega
        · rw [show swg P p r q d = 0 by omega, Int.zero_mul, Int.add_zero] at pl
          rcases g with g | g
          · left
            have t1 : swg P p q r' d * (dot c (P r) - dot c (P p)) < 0 := Int.mul_neg_of_pos_of_neg g (by omega)
            rcases Int.lt_or_le 0 (swg P p r r' d) with e | e
            · exact e
            · have := Int.mul_nonneg_of_nonpos_of_nonpos e (show dot c (P q) - dot c (P p) ≤ 0 by omega); omega
          · right
            rw [g.1, Int.zero_mul] at pl
            refine ⟨(Int.mul_eq_zero.1 pl).resolve_right (by omega), ?_⟩
            omega
    · rename_i hc
      refine flR_spec hd hp k (r + 1) q w (by omega) ?_ hex
      rcases hI with ⟨h0, h⟩ | ⟨h0, h1, h2, h3⟩
      · left
        refine ⟨h0, fun r' hr' hA' => ?_⟩
        by_cases e : r' = r
        · subst e
          apply Classical.byContradiction
          intro ns
          exact hc ⟨hA'.2, ns, Or.inl h0⟩
        · exact h r' (by omega) hA'
      · right
        refine ⟨h0, h1, h2, fun r' hr' hA' ns => ?_⟩
        by_cases e : r' = r
        · subst e
          have := fun t => hc ⟨hA'.2, ns, t⟩
          rcases Int.lt_trichotomy (swg P p q r' d) 0 with u | u | u
          · exact absurd (Or.inr (Or.inl u)) this
          · right
            refine ⟨u, ?_⟩
            rcases Int.lt_or_le w (spr P p r' d) with v | v
            · exact absurd (Or.inr (Or.inr ⟨u, v⟩)) this
            · omega
          · exact Or.inl u
        · exact h3 r' (by omega) hA' ns
theorem flF_spec {P : Nat → V3} {S : Nat} {d : V3} (hd : d ≠ vO) (hn : ∃ x y z, bA2 S x ∧ bA2 S y ∧ bA2 S z ∧ swg P x y z d ≠ 0) {p : Nat} (hp : expo P (bA2 S) d p) : nxt P (bA2 S) d p (flF P d S p) := by
  refine flR_spec hd hp 14 0 p 0 (by omega) (Or.inl ⟨rfl, fun r' h => by omega⟩) ?_
  obtain ⟨x, y, z, hx, hy, hz, hne⟩ := hn
  apply Classical.byContradiction
  intro h
  have s : ∀ r, bA2 S r → sam P d p r := fun r hr => Classical.byContradiction fun e => h ⟨r, hr, e⟩
  apply hne
  rw [← swg_sam3 hd (s z hz), ← swg_sam2 hd (s y hy), ← swg_sam1 hd (s x hx), swg_pp]
theorem rmR_spec {P : Nat → V3} {S : Nat} {d : V3} {fr : Nat} : ∀ (k i b : Nat) (w : Int), i + k = 14 → bA2 S b → w = spr P fr b d → (∀ j, j < i → bA2 S j → spr P fr j d ≤ w) → bA2 S (rmR P d S fr k i b w) ∧ ∀ j, bA2 S j → spr P fr j d ≤ spr P fr (rmR P d S fr k i b w) d
  | 0, i, b, w, hi, hb, hw, h => by
    simp only [rmR]
    exact ⟨hb, fun j hj => by have := h j (by have := hj.1; omega) hj; omega⟩
  | k + 1, i, b, w, hi, hb, hw, h => by
    simp only [rmR]
    split
    · rename_i hc
      refine rmR_spec k (i + 1) i _ (by omega) ⟨by omega, hc.1⟩ rfl (fun j hj hA => ?_)
      by_cases e : j = i
      · subst e; omega
      · have := h j (by omega) hA; omega
    · rename_i hc
      refine rmR_spec k (i + 1) b w (by omega) hb hw (fun j hj hA => ?_)
      by_cases e : j = i
      · subst e
        rcases Int.lt_or_le w (spr P fr j d) with u | u
        · exact absurd ⟨hA.2, u⟩ hc
        · exact u
      · exact h j (by omega) hA
/-- what is farthest from one is a corner -/
theorem far_expo {P : Nat → V3} {A : Nat → Prop} {d : V3} {u w : Nat} (hw : A w) (h : ∀ j, A j → spr P u j d ≤ spr P u w d) : expo P A d w := by
  refine ⟨hw, vcr d (vcr (vsub (P w) (P u)) d), by rw [dot_comm]; exact dot_vcr_l .., fun k hk => ?_⟩
  by_cases e : sam P d w k
  · exact Or.inl e
  right
  have hx : ∀ k, dot (vcr d (vcr (vsub (P w) (P u)) d)) (vsub (P k) (P u)) = dot (vcr (vsub (P w) (P u)) d) (vcr (vsub (P k) (P u)) d) := by
    intro k
    have : ∀ U x : V3, dot (vcr d U) x = dot U (vcr x d) := by intro U x; simp only [dot, vcr]; grind
    exact this _ _
  have h1 := hx k
  have h2 := hx w
  rw [dot_sub] at h1 h2
  have hs := h k hk
  have eU : dot (vcr (vsub (P w) (P u)) d) (vcr (vsub (P w) (P u)) d) = spr P u w d := rfl
  have eW : dot (vcr (vsub (P k) (P u)) d) (vcr (vsub (P k) (P u)) d) = spr P u k d := rfl
  have hX : dot (vsub (vcr (vsub (P w) (P u)) d) (vcr (vsub (P k) (P u)) d)) (vsub (vcr (vsub (P w) (P u)) d) (vcr (vsub (P k) (P u)) d)) = spr P u w d - 2 * dot (vcr (vsub (P w) (P u)) d) (vcr (vsub (P k) (P u)) d) + spr P u k d := by
    rw [← eU, ← eW]; simp only [dot, vsub]; grind
  have hne : vsub (vcr (vsub (P w) (P u)) d) (vcr (vsub (P k) (P u)) d) ≠ vO := by
    intro e2
    apply e
    apply sam_mk
    rw [vO_iff] at e2 ⊢
    simp only [vsub, vcr] at e2 ⊢
    obtain ⟨e1, e2, e3⟩ := e2
    refine ⟨by grind, by grind, by grind⟩
  have hp := dot_self_pos hne
  rw [eU] at h2
  omega
theorem tz_spec {S j : Nat} (hj : bA2 S j) : bA2 S (tz S) ∧ ∀ k, k < tz S → S.testBit k = false := by
  obtain ⟨a, b, c, e⟩ := tzR_spec S 14 0 ⟨j, by omega, by have := hj.1; omega, hj.2⟩
  exact ⟨⟨by simp only [tz]; omega, a⟩, fun k hk => e k (by omega) hk⟩
theorem rmF_expo {P : Nat → V3} {S j : Nat} {d : V3} (hj : bA2 S j) : expo P (bA2 S) d (rmF P d S) := by
  obtain ⟨a, _⟩ := tz_spec hj
  obtain ⟨b, c⟩ := rmR_spec (P := P) (d := d) (fr := tz S) 14 0 (tz S) 0 (by omega) a (by rw [show spr P (tz S) (tz S) d = 0 from sam_refl ..]) (fun j hj => by omega)
  exact far_expo b c
theorem tb_or (a b k : Nat) : (a ||| 2 ^ b).testBit k = (a.testBit k || decide (b = k)) := by
  rw [Nat.testBit_or, Nat.testBit_two_pow]
/-- what a trace writes -/
theorem trN_spec {P : Nat → V3} {S : Nat} {d : V3} {st L : Nat} (hL : sam P d st (itr (flF P d S) st L)) (hm : ∀ k, 0 < k → k < L → ¬ sam P d st (itr (flF P d S) st k)) : ∀ (k s : Nat) (row : Nat → Nat) (me : Nat), s < L → L ≤ s + k → (∀ j, j < s → row j = itr (flF P d S) st j) → (∀ x, me.testBit x = true ↔ ∃ j, j < s ∧ itr (flF P d S) st j = x) →
    (trN P d S st k s (itr (flF P d S) st s) row me).2.2 = L ∧ (∀ j, j < L → (trN P d S st k s (itr (flF P d S) st s) row me).1 j = itr (flF P d S) st j) ∧ ∀ x, (trN P d S st k s (itr (flF P d S) st s) row me).2.1.testBit x = true ↔ ∃ j, j < L ∧ itr (flF P d S) st j = x
  | 0, s, row, me, h1, h2, _, _ => by omega
  | k + 1, s, row, me, h1, h2, hr, hme => by
    have hr' : ∀ j, j < s + 1 → nup row s (itr (flF P d S) st s) j = itr (flF P d S) st j := by
      intro j hj
      by_cases e : j = s
      · subst e; exact nup_s
      · rw [nup_n e]; exact hr j (by omega)
    have hme' : ∀ x, (me ||| 2 ^ (itr (flF P d S) st s)).testBit x = true ↔ ∃ j, j < s + 1 ∧ itr (flF P d S) st j = x := by
      intro x
      rw [tb_or, Bool.or_eq_true, hme, decide_eq_true_eq]
      constructor
      · rintro (⟨j, a, b⟩ | e)
        · exact ⟨j, by omega, b⟩
        · exact ⟨s, by omega, e⟩
      · rintro ⟨j, a, b⟩
        by_cases e : j = s
        · subst e; exact Or.inr b
        · exact Or.inl ⟨j, by omega, b⟩
    simp only [trN]
    split
    · rename_i hc
      have e : s + 1 = L := by
        apply Classical.byContradiction
        intro e
        exact hm (s + 1) (by omega) (by omega) hc
      subst e
      exact ⟨rfl, hr', hme'⟩
    · rename_i hc
      have e : s + 1 < L := by
        apply Classical.byContradiction
        intro e
        have : s + 1 = L := by omega
        subst this
        exact hc hL
      exact trN_spec hL hm k (s + 1) _ _ e (by omega) hr' hme'
/-- a round of a face: all its corners, from the least on -/
def rnd (P : Nat → V3) (A : Nat → Prop) (d : V3) (R : Nat → Nat) (L : Nat) : Prop :=
  (3 ≤ L ∧ L ≤ 14) ∧ (∀ k, k < L → expo P A d (R k)) ∧ (∀ i j, i < L → j < L → R i = R j → i = j) ∧ (∀ e, expo P A d e → ∃ k, k < L ∧ R k = e) ∧ (∀ e, expo P A d e → R 0 ≤ e) ∧ (∀ k, k + 1 < L → nxt P A d (R k) (R (k + 1))) ∧ nxt P A d (R (L - 1)) (R 0)
theorem nfT_spec {P : Nat → V3} {S : Nat} {d : V3} (hd : d ≠ vO) (hn : ∃ x y z, bA2 S x ∧ bA2 S y ∧ bA2 S z ∧ swg P x y z d ≠ 0) (hs : ∀ j k, bA2 S j → bA2 S k → sam P d j k → j = k) (row : Nat → Nat) :
    rnd P (bA2 S) d (nfT P d S row).1 (nfT P d S row).2.2 ∧ ∀ x, (nfT P d S row).2.1.testBit x = true ↔ expo P (bA2 S) d x := by
  have hn' := hn
  obtain ⟨x, y, z, hx, _⟩ := hn'
  have r0 := rmF_expo (P := P) (d := d) hx
  have hf := fun p (hp : expo P (bA2 S) d p) => flF_spec hd hn hp
  have tr : ∀ st row, expo P (bA2 S) d st → ∃ L, (3 ≤ L ∧ L ≤ 14) ∧ (trN P d S st 14 0 st row 0).2.2 = L ∧ (∀ j, j < L → (trN P d S st 14 0 st row 0).1 j = itr (flF P d S) st j) ∧ (∀ x, (trN P d S st 14 0 st row 0).2.1.testBit x = true ↔ expo P (bA2 S) d x) ∧ (∀ k, expo P (bA2 S) d (itr (flF P d S) st k)) ∧ (∀ i j, i < L → j < L → itr (flF P d S) st i = itr (flF P d S) st j → i = j) ∧ itr (flF P d S) st L = st ∧ ∀ e, expo P (bA2 S) d e → ∃ k, k < L ∧ itr (flF P d S) st k = e := by
    intro st row hst
    obtain ⟨L, l3, lN, ex, hL, hm, inj, cov⟩ := cyc (N := 14) (fun k h => h.1) hd hn (flF P d S) hf st hst
    obtain ⟨t1, t2, t3⟩ := trN_spec hL hm 14 0 row 0 (by omega) (by omega) (fun j hj => by omega) (fun x => by simp)
    have cov' : ∀ e, expo P (bA2 S) d e → ∃ k, k < L ∧ itr (flF P d S) st k = e := by
      intro e he
      obtain ⟨k, k1, k2⟩ := cov e he
      exact ⟨k, k1, hs _ _ (ex k).1 he.1 k2⟩
    refine ⟨L, ⟨l3, lN⟩, t1, t2, fun x => ⟨fun h => ?_, fun h => ?_⟩, ex, fun i j hi hj e => inj i j hi hj (by rw [e]; exact sam_refl ..), (hs _ _ hst.1 (ex L).1 hL).symm, cov'⟩
    · obtain ⟨j, _, j2⟩ := (t3 x).1 h
      rw [← j2]; exact ex j
    · exact (t3 x).2 (cov' x h)
  obtain ⟨L1, _, _, _, m1, _⟩ := tr _ row r0
  have m1' : ∀ x, bA2 (trN P d S (rmF P d S) 14 0 (rmF P d S) row 0).2.1 x ↔ expo P (bA2 S) d x := fun x => ⟨fun h => (m1 x).1 h.2, fun h => ⟨h.1.1, (m1 x).2 h⟩⟩
  obtain ⟨z1, z2⟩ := tz_spec ((m1' _).2 r0)
  have st := (m1' _).1 z1
  obtain ⟨L, l3, t1, t2, t3, ex, inj, hL, cov⟩ := tr _ (trN P d S (rmF P d S) 14 0 (rmF P d S) row 0).1 st
  refine ⟨?_, t3⟩
  simp only [nfT]
  rw [t1]
  refine ⟨l3, fun k hk => by rw [t2 k hk]; exact ex k, fun i j hi hj e => by rw [t2 i hi, t2 j hj] at e; exact inj i j hi hj e, fun e he => ?_, fun e he => ?_, fun k hk => ?_, ?_⟩
  · obtain ⟨k, k1, k2⟩ := cov e he
    exact ⟨k, k1, by rw [t2 k k1]; exact k2⟩
  · rw [t2 0 (by omega)]
    have := (m1 e).2 he
    rcases Nat.lt_or_ge e (tz (trN P d S (rmF P d S) 14 0 (rmF P d S) row 0).2.1) with h | h
    · have := z2 e h; simp_all
    · exact h
  · rw [t2 k (by omega), t2 (k + 1) hk]; exact hf _ (ex k)
  · rw [t2 (L - 1) (by omega), t2 0 (by omega)]
    have := hf _ (ex (L - 1))
    have e : itr (flF P d S) (tz (trN P d S (rmF P d S) 14 0 (rmF P d S) row 0).2.1) L = flF P d S (itr (flF P d S) (tz (trN P d S (rmF P d S) 14 0 (rmF P d S) row 0).2.1) (L - 1)) := by
      obtain ⟨M, rfl⟩ : ∃ M, L = M + 1 := ⟨L - 1, by omega⟩
      rfl
    rw [← e, hL] at this
    exact this
