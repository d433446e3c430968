theorem bxs_fun (P : Nat → V3) (a b c x : Nat) : bxs P a b c x = dot (ncr P a b c) (P x) - dot (ncr P a b c) (P a) := by
  show dot (vsub (P x) (P a)) (ncr P a b c) = _
  rw [dot_comm, dot_sub]
theorem bxs_side {P : Nat → V3} {m : Nat} {n : V3} {l : Int} {a b c : Nat} (ha : fA P m n l a) (hb : fA P m n l b) (hc : fA P m n l c) (x : Nat) : dot n n * bxs P a b c x = swg P a b c n * (dot n (P x) - l) := by
  have pa := perp_par (n := n) (a := vsub (P b) (P a)) (b := vsub (P c) (P a)) (by rw [dot_sub, ha.2, hb.2]; omega) (by rw [dot_sub, ha.2, hc.2]; omega)
  have pa' : vcr n (ncr P a b c) = vO := pa
  have key : ∀ u : V3, dot n n * dot (ncr P a b c) u = dot n (ncr P a b c) * dot n u := by
    intro u
    rw [vO_iff] at pa'; simp only [vcr] at pa'; obtain ⟨a1, a2, a3⟩ := pa'
    generalize ncr P a b c = N at *
    simp only [dot]; grind
  have k1 := key (P x); have k2 := key (P a)
  rw [ha.2] at k2
  rw [bxs_fun, swg_ncr]; grind
/-- what leaves a corner, an edge there and a face there in place moves nothing -/
theorem flag_id {P : Nat → V3} {m : Nat} (hm : m ≤ 14) (hD : Dis P m) {s : Nat → Nat} (hsy : sy P m s) {n : V3} {l : Int} (hF : isF P m n l) {p q : Nat} (hp : expo P (fA P m n l) n p) (hpq : nxt P (fA P m n l) n p q) (ep : s p = p) (eq : s q = q) (hf : ∀ r, isCor P m r → fA P m n l r → fA P m n l (s r)) : ∀ x, isCor P m x → s x = x := by
  have hs := F_sol hF
  have nn := gcd3_ne hF.1
  have np := dot_self_pos nn
  have hq := nxt_expo (fun k (hk : fA P m n l k) => hk.1) nn hp hpq
  have cp := cor_of hD hF hp
  have cq := cor_of hD hF hq
  have e0 : dot n (vsub (P q) (P p)) = 0 := by rw [dot_sub, hp.1.2, hq.1.2]; omega
  have en : vsub (P q) (P p) ≠ vO := fun e => hpq.2.1 (sam_mk (by rw [e]; simp [vcr, vO]))
  have cn := cr_ne nn en e0
  -- in the face
  have face : ∀ r, isCor P m r → fA P m n l r → s r = r := by
    intro r cr hr
    by_cases e1 : r = p
    · rw [e1]; exact ep
    by_cases e2 : r = q
    · rw [e2]; exact eq
    have hr' := hf r cr hr
    have cr' := hsy.1 r cr
    have n1 : s r ≠ p := fun e => e1 (sy_inj hD hsy cr cp (e.trans ep.symm))
    have n2 : s r ≠ q := fun e => e2 (sy_inj hD hsy cr cq (e.trans eq.symm))
    have ns : ∀ {i j}, fA P m n l i → fA P m n l j → i ≠ j → ¬ sam P n i j := fun hi hj hij e => hij (F_sam hD hF hi hj e)
    have w1 := nxt_strict nn hp (expo_of hF hr cr) hpq (ns hp.1 hr (fun e => e1 e.symm)) (ns hr hq.1 e2)
    have w2 := nxt_strict nn hp (expo_of hF hr' cr') hpq (ns hp.1 hr' (fun e => n1 e.symm)) (ns hr' hq.1 n2)
    have i1 := sy_ip hsy cp cr cp cq
    have i2 := sy_ip hsy cp cr cp cr
    rw [ep, eq] at i1
    rw [ep] at i2
    have z1 : dot n (vsub (P r) (P p)) = 0 := by rw [dot_sub, hr.2, hp.1.2]; omega
    have z2 : dot n (vsub (P (s r)) (P p)) = 0 := by rw [dot_sub, hr'.2, hp.1.2]; omega
    have g2 : ∀ w : V3, dot n (vcr (vsub (P q) (P p)) w) = dot (vcr n (vsub (P q) (P p))) w := by
      intro w; generalize vsub (P q) (P p) = e; simp only [dot, vcr]; grind
    have v1 : swg P p q r n = dot (vcr n (vsub (P q) (P p))) (vsub (P r) (P p)) := g2 _
    have v2 : swg P p q (s r) n = dot (vcr n (vsub (P q) (P p))) (vsub (P (s r)) (P p)) := g2 _
    rw [v1] at w1
    rw [v2] at w2
    have mix : ∀ w : V3, dot n w = 0 → dot n n * dot (vsub (P q) (P p)) (vsub (P q) (P p)) * dot w w = dot n n * (dot (vsub (P q) (P p)) w * dot (vsub (P q) (P p)) w) + dot (vcr n (vsub (P q) (P p))) w * dot (vcr n (vsub (P q) (P p))) w := by
      intro w hw
      have i : ∀ e : V3, (dot n n * dot e e - dot n e * dot n e) * dot w w = dot n n * (dot e w * dot w e) + dot (vcr n e) w * dot w (vcr n e) + dot e e * (dot n w * dot w n) - dot n e * (dot n w * dot w e + dot e w * dot w n) := by
        intro e; simp only [dot, vcr]; grind
      have := i (vsub (P q) (P p))
      rw [e0, hw, dot_comm w (vsub (P q) (P p)), dot_comm w (vcr n (vsub (P q) (P p)))] at this
      grind
    have m1 := mix _ z1
    have m2 := mix _ z2
    have ic1 : dot (vsub (P q) (P p)) (vsub (P (s r)) (P p)) = dot (vsub (P q) (P p)) (vsub (P r) (P p)) := by
      rw [dot_comm, i1, dot_comm]
    rw [i2, ic1] at m2
    have sq : (dot (vcr n (vsub (P q) (P p))) (vsub (P (s r)) (P p)) - dot (vcr n (vsub (P q) (P p))) (vsub (P r) (P p))) * (dot (vcr n (vsub (P q) (P p))) (vsub (P (s r)) (P p)) + dot (vcr n (vsub (P q) (P p))) (vsub (P r) (P p))) = 0 := by grind
    have w3 : dot (vcr n (vsub (P q) (P p))) (vsub (P (s r)) (P p)) = dot (vcr n (vsub (P q) (P p))) (vsub (P r) (P p)) := by
      rcases Int.mul_eq_zero.1 sq with h | h <;> omega
    have det : dot (vcr n (vsub (P q) (P p))) (vcr n (vsub (P q) (P p))) ≠ 0 := by have := dot_self_pos cn; omega
    have u := vec_uni (a := n) (b := vsub (P q) (P p)) (c := vcr n (vsub (P q) (P p))) (u := vsub (P (s r)) (P p)) (w := vsub (P r) (P p)) det (by rw [dot_comm, z2, dot_comm, z1]) i1 (by rw [dot_comm, w3, dot_comm])
    have u1 := congrArg (fun t : V3 => t.1) u
    have u2 := congrArg (fun t : V3 => t.2.1) u
    have u3 := congrArg (fun t : V3 => t.2.2) u
    simp only [vsub] at u1 u2 u3
    exact hD _ _ cr'.1 cr.1 (v3ext (by omega) (by omega) (by omega))
  -- off it
  obtain ⟨R, L, hR⟩ := F_rnd hm hD hF
  obtain ⟨⟨l3, _⟩, ex, inj, cov, _, nx, nl⟩ := id hR
  have hN := rnd_012 hD hF hR
  have cor := fun k hk => cor_of hD hF (ex k hk)
  have fx := fun k hk => face (R k) (cor k hk) (ex k hk).1
  have st : 0 < swg P (R 0) (R 1) (R 2) n := nxt_strict nn (ex 0 (by omega)) (ex 2 (by omega)) (nx 0 (by omega)) (fun e => by have := inj 0 2 (by omega) (by omega) (F_sam hD hF (ex 0 (by omega)).1 (ex 2 (by omega)).1 e); omega) (fun e => by have := inj 2 1 (by omega) (by omega) (F_sam hD hF (ex 2 (by omega)).1 (ex 1 (by omega)).1 e); omega)
  have side := bxs_side (ex 0 (by omega)).1 (ex 1 (by omega)).1 (ex 2 (by omega)).1
  have le0 : ∀ x, isCor P m x → bxs P (R 0) (R 1) (R 2) x ≤ 0 := by
    intro x hx
    have a := side x
    have b := hF.2.1 x hx.1
    rcases Int.lt_or_le 0 (bxs P (R 0) (R 1) (R 2) x) with u | u
    · have := Int.mul_pos np u
      have := Int.mul_nonpos_of_nonneg_of_nonpos (Int.le_of_lt st) (show dot n (P x) - l ≤ 0 by omega)
      omega
    · exact u
  obtain ⟨e, he, hdet⟩ := sy_det hm hD hs hsy
  have img : ∀ x, isCor P m x → bxs P (R 0) (R 1) (R 2) (s x) = e * bxs P (R 0) (R 1) (R 2) x := by
    intro x hx
    have := hdet _ _ _ x (cor 0 (by omega)) (cor 1 (by omega)) (cor 2 (by omega)) hx
    rw [fx 0 (by omega), fx 1 (by omega), fx 2 (by omega)] at this
    exact this
  have e1 : e = 1 := by
    rcases he with h | h
    · exact h
    · exfalso
      obtain ⟨k, k1, k2⟩ := hF.2.2.1
      obtain ⟨w, hw, w2⟩ := max_cor hm hD hs (vneg n)
      have t := w2 k k1
      rw [dot_neg, dot_neg] at t
      have a := side w
      have b := Int.mul_neg_of_pos_of_neg st (show dot n (P w) - l < 0 by omega)
      have c := img w hw
      have d := le0 w hw
      have d' := le0 _ (hsy.1 w hw)
      rw [h] at c
      have : bxs P (R 0) (R 1) (R 2) w = 0 := by omega
      rw [this, Int.mul_zero] at a
      omega
  intro x hx
  have i1 := sy_ip hsy (cor 0 (by omega)) hx (cor 0 (by omega)) (cor 1 (by omega))
  have i2 := sy_ip hsy (cor 0 (by omega)) hx (cor 0 (by omega)) (cor 2 (by omega))
  rw [fx 0 (by omega), fx 1 (by omega)] at i1
  rw [fx 0 (by omega), fx 2 (by omega)] at i2
  have b := img x hx
  rw [e1, Int.one_mul] at b
  have b' : dot (vsub (P (s x)) (P (R 0))) (ncr P (R 0) (R 1) (R 2)) = dot (vsub (P x) (P (R 0))) (ncr P (R 0) (R 1) (R 2)) := b
  have u := vec_uni (a := vsub (P (R 1)) (P (R 0))) (b := vsub (P (R 2)) (P (R 0))) (c := ncr P (R 0) (R 1) (R 2)) (u := vsub (P (s x)) (P (R 0))) (w := vsub (P x) (P (R 0))) (by have := dot_self_pos hN; exact fun e => by have e' : dot (ncr P (R 0) (R 1) (R 2)) (ncr P (R 0) (R 1) (R 2)) = 0 := e; omega) i1 i2 b'
  have u1 := congrArg (fun t : V3 => t.1) u
  have u2 := congrArg (fun t : V3 => t.2.1) u
  have u3 := congrArg (fun t : V3 => t.2.2) u
  simp only [vsub] at u1 u2 u3
  exact hD _ _ (hsy.1 x hx).1 hx.1 (v3ext (by omega) (by omega) (by omega))
