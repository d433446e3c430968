/-! The reference: base and goals -/
/-- where p comes, by distances to the goals -/
noncomputable def imQ (P : Nat → V3) (m : Nat) (b g : Nat → Nat) (p : Nat) : Int := @dite Int (isCor P m p ∧ ∃ q, isCor P m q ∧ isIm P b g p q) (Classical.propDecidable _) (fun h => (Classical.choose h.2 : Nat)) (fun _ => -1)
theorem imQ_yes {P : Nat → V3} {m : Nat} (hD : Dis P m) {b g : Nat → Nat} (hf : fitG P b g) (hb : bxs P (b 0) (b 1) (b 2) (b 3) ≠ 0) {p q : Nat} (hp : isCor P m p) (hq : isCor P m q) (h : isIm P b g p q) : imQ P m b g p = (q : Int) := by
  have hex : isCor P m p ∧ ∃ q, isCor P m q ∧ isIm P b g p q := ⟨hp, q, hq, h⟩
  unfold imQ
  rw [dif_pos hex]
  have c := Classical.choose_spec hex.2
  rw [im_uni hD hf hb c.1.1 hq.1 c.2 h]
theorem imQ_no {P : Nat → V3} {m : Nat} {b g : Nat → Nat} {p : Nat} (h : ¬ (isCor P m p ∧ ∃ q, isCor P m q ∧ isIm P b g p q)) : imQ P m b g p = -1 := by
  unfold imQ; rw [dif_neg h]
theorem imQ_spec {P : Nat → V3} {m : Nat} (b g : Nat → Nat) (p : Nat) : (imQ P m b g p = -1) ∨ (0 ≤ imQ P m b g p ∧ isCor P m p ∧ isCor P m (imQ P m b g p).toNat ∧ isIm P b g p (imQ P m b g p).toNat) := by
  by_cases h : isCor P m p ∧ ∃ q, isCor P m q ∧ isIm P b g p q
  · right
    have c := Classical.choose_spec h.2
    have e : imQ P m b g p = ((Classical.choose h.2 : Nat) : Int) := by unfold imQ; rw [dif_pos h]
    rw [e, Int.toNat_natCast]
    exact ⟨by omega, h.1, c.1, c.2⟩
  · exact Or.inl (imQ_no h)
/-- all corners are met: the goals make a symmetry -/
theorem acc_sy {P : Nat → V3} {m : Nat} {b g : Nat → Nat} (hf : fitG P b g) (hb : bxs P (b 0) (b 1) (b 2) (b 3) ≠ 0) (h : ∀ x : Nat, isCor P m x → ∃ p, p < m ∧ imQ P m b g p = (x : Int)) : (∀ p, isCor P m p → 0 ≤ imQ P m b g p) ∧ sy P m (fun p => (imQ P m b g p).toNat) := by
  have all : ∀ p, isCor P m p → 0 ≤ imQ P m b g p := by
    intro p0 hp0
    apply Classical.byContradiction
    intro hneg
    have h0 : imQ P m b g p0 = -1 := by
      rcases imQ_spec (P := P) (m := m) b g p0 with e | e
      · exact e
      · exact absurd e.1 hneg
    have a := ct_rel (p := isCor P m) (q := fun k => isCor P m k ∧ k ≠ p0) (N := m) (M := m) (fun x p => imQ P m b g p = (x : Int)) (fun x hx cx => by
      obtain ⟨p, p1, p2⟩ := h x cx
      refine ⟨p, p1, ⟨?_, ?_⟩, p2⟩
      · rcases imQ_spec (P := P) (m := m) b g p with e | e
        · omega
        · exact e.2.1
      · rintro rfl; omega) (fun x y p _ _ _ _ _ e1 e2 => by omega)
    have c := ct_pop (q := isCor P m) (M := m) (j := p0) hp0.1 hp0
    omega
  refine ⟨all, im_sy hf hb (fun p hp => ?_)⟩
  rcases imQ_spec (P := P) (m := m) b g p with e | e
  · have := all p hp; omega
  · exact ⟨e.2.2.1, e.2.2.2⟩
theorem bxs_s12 (P : Nat → V3) (p q r s : Nat) : bxs P q p r s = - bxs P p q r s := by
  simp only [bxs, swg, dot, vcr, vsub]; grind
theorem bxs_s23 (P : Nat → V3) (p q r s : Nat) : bxs P p r q s = - bxs P p q r s := by
  simp only [bxs, swg, dot, vcr, vsub]; grind
theorem bxs_s34 (P : Nat → V3) (p q r s : Nat) : bxs P p q s r = - bxs P p q r s := by
  simp only [bxs, swg, dot, vcr, vsub]; grind
def g4 (P : Nat → V3) (m p q r s : Nat) : Prop := isCor P m p ∧ isCor P m q ∧ isCor P m r ∧ isCor P m s ∧ bxs P p q r s ≠ 0
theorem g4_12 {P : Nat → V3} {m p q r s : Nat} (h : g4 P m p q r s) : g4 P m q p r s := ⟨h.2.1, h.1, h.2.2.1, h.2.2.2.1, by rw [bxs_s12]; have := h.2.2.2.2; omega⟩
theorem g4_23 {P : Nat → V3} {m p q r s : Nat} (h : g4 P m p q r s) : g4 P m p r q s := ⟨h.1, h.2.2.1, h.2.1, h.2.2.2.1, by rw [bxs_s23]; have := h.2.2.2.2; omega⟩
theorem g4_34 {P : Nat → V3} {m p q r s : Nat} (h : g4 P m p q r s) : g4 P m p q s r := ⟨h.1, h.2.1, h.2.2.2.1, h.2.2.1, by rw [bxs_s34]; have := h.2.2.2.2; omega⟩
theorem g4_ne {P : Nat → V3} {m p q r s : Nat} (h : g4 P m p q r s) : p ≠ q ∧ q ≠ r ∧ r ≠ s := by
  refine ⟨?_, ?_, ?_⟩
  · rintro rfl; have := bxs_s12 P p p r s; have := h.2.2.2.2; omega
  · rintro rfl; have := bxs_s23 P p q q s; have := h.2.2.2.2; omega
  · rintro rfl; have := bxs_s34 P p q r r; have := h.2.2.2.2; omega
theorem o12 {P : Nat → V3} {m p q r s : Nat} (h : g4 P m p q r s) : ∃ p' q', g4 P m p' q' r s ∧ q' < p' ∧ ((p' = p ∧ q' = q) ∨ (p' = q ∧ q' = p)) := by
  have := (g4_ne h).1
  by_cases c : q < p
  · exact ⟨p, q, h, c, Or.inl ⟨rfl, rfl⟩⟩
  · exact ⟨q, p, g4_12 h, by omega, Or.inr ⟨rfl, rfl⟩⟩
theorem o23 {P : Nat → V3} {m p q r s : Nat} (h : g4 P m p q r s) : ∃ q' r', g4 P m p q' r' s ∧ r' < q' ∧ ((q' = q ∧ r' = r) ∨ (q' = r ∧ r' = q)) := by
  have := (g4_ne h).2.1
  by_cases c : r < q
  · exact ⟨q, r, h, c, Or.inl ⟨rfl, rfl⟩⟩
  · exact ⟨r, q, g4_23 h, by omega, Or.inr ⟨rfl, rfl⟩⟩
theorem o34 {P : Nat → V3} {m p q r s : Nat} (h : g4 P m p q r s) : ∃ r' s', g4 P m p q r' s' ∧ s' < r' ∧ ((r' = r ∧ s' = s) ∨ (r' = s ∧ s' = r)) := by
  have := (g4_ne h).2.2
  by_cases c : s < r
  · exact ⟨r, s, h, c, Or.inl ⟨rfl, rfl⟩⟩
  · exact ⟨s, r, g4_34 h, by omega, Or.inr ⟨rfl, rfl⟩⟩
/-- a base in descending order -/
theorem g4_desc {P : Nat → V3} {m : Nat} (hm : m ≤ 14) (hD : Dis P m) (hs : Sol P m) : ∃ p q r s, p < m ∧ q < p ∧ r < q ∧ s < r ∧ g4 P m p q r s := by
  obtain ⟨a, b, c, x, ha, hb, hc, hx, hne⟩ := cor_base hm hD hs
  have h0 : g4 P m a b c x := ⟨ha, hb, hc, hx, hne⟩
  obtain ⟨a1, b1, h1, l1, e1⟩ := o12 h0
  obtain ⟨b2, c2, h2, l2, e2⟩ := o23 h1
  obtain ⟨c3, x3, h3, l3, e3⟩ := o34 h2
  obtain ⟨a4, b4, h4, l4, e4⟩ := o12 h3
  obtain ⟨b5, c5, h5, l5, e5⟩ := o23 h4
  obtain ⟨a6, b6, h6, l6, e6⟩ := o12 h5
  have k : x3 < c5 ∧ c5 < b6 := by omega
  exact ⟨a6, b6, c5, x3, h6.1.1, l6, k.2, k.1, h6⟩
section MD2
variable {h : xHp} {m : Nat} {P : Nat → V3} {bu tb fl co fa : Nat} {fb fs fr : Nat → Nat} {nn : Nat → V3} {lv : Nat → Int} {a : V3} {fat : Nat → Nat} {w : Int × V3} {cm : Int} {cX cY cZ cD su sv : Nat → Int} {tu : Nat} {im : Nat → Int} {rk ba : Nat → Nat} {go : Nat → Int}
variable {n : Nat} {hh : xHp}
set_option maxRecDepth 10000 in
theorem m_apart {p q : Nat} (hp : p < 14) (hq : q < 14) : xPure xmX6_apart 1 [.ref 64, zI p, zI q] n (mdH h m P bu tb fl co fa fb fs fr nn lv a fat w cm cX cY cZ cD su sv tu im rk ba go) (zI (dst P p q)) := by
  refine xCall.of xgX6_apart rfl ?_
  refine tt_op rfl rfl ?_
  refine tt_get rfl md64 (by rfl) ?_
  refine tt_op rfl rfl ?_
  refine z_iald rfl md65 rfl (by omega) (by decide) ?_
  refine tt_op rfl rfl ?_
  refine tt_get rfl md64 (by rfl) ?_
  refine tt_op rfl rfl ?_
  refine z_iald rfl md65 rfl (by omega) (by decide) ?_
  refine z_isub rfl ?_
  refine tt_op rfl rfl ?_
  refine tt_op rfl rfl ?_
  refine tt_get rfl md64 (by rfl) ?_
  refine tt_op rfl rfl ?_
  refine z_iald rfl md66 rfl (by omega) (by decide) ?_
  refine tt_op rfl rfl ?_
  refine tt_get rfl md64 (by rfl) ?_
  refine tt_op rfl rfl ?_
  refine z_iald rfl md66 rfl (by omega) (by decide) ?_
  refine z_isub rfl ?_
  refine tt_op rfl rfl ?_
  refine tt_op rfl rfl ?_
  refine tt_get rfl md64 (by rfl) ?_
  refine tt_op rfl rfl ?_
  refine z_iald rfl md67 rfl (by omega) (by decide) ?_
  refine tt_op rfl rfl ?_
  refine tt_get rfl md64 (by rfl) ?_
  refine tt_op rfl rfl ?_
  refine z_iald rfl md67 rfl (by omega) (by decide) ?_
  refine z_isub rfl ?_
  refine tt_op rfl rfl ?_
  refine tt_op rfl rfl ?_
  refine tt_op rfl rfl ?_
  refine z_imul rfl ?_
  refine tt_op rfl rfl ?_
  refine tt_op rfl rfl ?_
  refine z_imul rfl ?_
  refine z_iadd rfl ?_
  refine tt_op rfl rfl ?_
  refine tt_op rfl rfl ?_
  refine z_imul rfl ?_
  refine z_iadd rfl ?_
  refine tt_ireturn rfl rfl (by rfl) (Nat.le_of_ble_eq_true rfl) (Nat.le_of_ble_eq_true rfl) ?_
  have e : ((P p).1 - (P q).1) * ((P p).1 - (P q).1) + ((P p).2.1 - (P q).2.1) * ((P p).2.1 - (P q).2.1) + ((P p).2.2 - (P q).2.2) * ((P p).2.2 - (P q).2.2) = dst P p q := by
    rw [dst_comm]; rfl
  rw [e]
  exact ⟨rfl, rfl, rfl⟩
set_option maxRecDepth 10000 in
theorem m_sense {p q r s : Nat} (hp : p < 14) (hq : q < 14) (hr : r < 14) (hs : s < 14) : xCall xmX6_sense 2 0 0 [.ref 64, zI p, zI q, zI r, zI s] n (mdH h m P bu tb fl co fa fb fs fr nn lv a fat w cm cX cY cZ cD su sv tu im rk ba go) (fun res n' h' => res = some (zI (bxs P p q r s)) ∧ n' = n ∧ h' = (mdH h m P bu tb fl co fa fb fs fr nn lv (crs P p q r) fat w cm cX cY cZ cD su sv tu im rk ba go)) := by
  refine xCall.of xgX6_sense rfl ?_
  refine tt_op rfl rfl ?_
  refine tt_op rfl rfl ?_
  refine tt_op rfl rfl ?_
  refine tt_op rfl rfl ?_
  refine tt_callV (M' := xmX6_cross) rfl rfl rfl md64 rfl (m_cross hp hq hr) ?_
  rintro res n' h' ⟨rfl, rfl, rfl⟩
  refine tt_op rfl rfl ?_
  refine tt_op rfl rfl ?_
  refine tt_pV rfl rfl rfl md64 rfl (m_height hs) ?_
  refine tt_op rfl rfl ?_
  refine tt_op rfl rfl ?_
  refine tt_pV rfl rfl rfl md64 rfl (m_height hp) ?_
  refine z_isub rfl ?_
  refine tt_ireturn rfl rfl (by rfl) (Nat.le_of_ble_eq_true rfl) (Nat.le_of_ble_eq_true rfl) ?_
  rw [bxs_fun]
  exact ⟨rfl, rfl, rfl⟩
theorem bxs_bd3 {P : Nat → V3} (hb : pbd P) {p q r s : Nat} (hp : p < 14) (hq : q < 14) (hr : r < 14) (hs : s < 14) : -400000 ≤ bxs P p q r s ∧ bxs P p q r s ≤ 400000 := by
  have hA := crs_bd hb hp hq hr
  have h1 := dot_bd hA (hb p hp)
  have h2 := dot_bd hA (hb s hs)
  rw [bxs_fun]
  show -400000 ≤ dot (crs P p q r) (P s) - dot (crs P p q r) (P p) ∧ dot (crs P p q r) (P s) - dot (crs P p q r) (P p) ≤ 400000
  omega
set_option maxRecDepth 10000 in
set_option maxHeartbeats 1000000 in
theorem m_findBase (hS : SF P m (fl, co, fa, fb, fs, fr, nn, lv, fat)) : xCall xmX6_findBase 3 0 0 [.ref 64] n (mdH h m P bu tb fl co fa fb fs fr nn lv a fat w cm cX cY cZ cD su sv tu im rk ba go) (fun res n' h' => res = none ∧ n' = n ∧ ∃ (a' : V3) (ba' : Nat → Nat), g4 P m (ba' 0) (ba' 1) (ba' 2) (ba' 3) ∧ h' = (mdH h m P bu tb fl co fa fb fs fr nn lv (a') fat w cm cX cY cZ cD su sv tu im rk (ba') go)) := by
  obtain ⟨_, ⟨hm, hb, hD⟩, hs, hA, _, hbd, hmt, hrn⟩ := SF_u hS
  obtain ⟨p0, q0, r0, s0, b0, b1, b2, b3, hg0⟩ := g4_desc hm hD hs
  refine xCall.of xgX6_findBase rfl ?_
  refine tt_op rfl rfl ?_
  refine tt_op rfl rfl ?_
  have ploop : ∀ (j p : Nat) (a : V3) (l2 l3 l4 : Option Value), p + j = m → (∀ p' q' r' s', p' < p → q' < p' → r' < q' → s' < r' → ¬ g4 P m p' q' r' s') → xT xmX6_findBase (3, 0, 0, 0, 0) 2 [some (.ref 64), some (zI p), l2, l3, l4] [] n (mdH h m P bu tb fl co fa fb fs fr nn lv a fat w cm cX cY cZ cD su sv tu im rk ba go) (fun res n' h' => res = none ∧ n' = n ∧ ∃ (a' : V3) (ba' : Nat → Nat), g4 P m (ba' 0) (ba' 1) (ba' 2) (ba' 3) ∧ h' = (mdH h m P bu tb fl co fa fb fs fr nn lv (a') fat w cm cX cY cZ cD su sv tu im rk (ba') go)) := by
    intro j
    induction j with
    | zero =>
      intro p a l2 l3 l4 hp hno
      exact absurd hg0 (hno p0 q0 r0 s0 (by omega) b1 b2 b3)
    | succ j ihp =>
      intro p a l2 l3 l4 hp hno
      refine tt_op rfl rfl ?_
      refine tt_op rfl rfl ?_
      refine tt_get rfl md64 (by rfl) ?_
      refine z_icmp rfl (by first | assumption | (unfold R3; omega)) (by first | assumption | (unfold R3; omega)) (fun c => absurd c (by simp only [zcd] <;> omega)) (fun c => ?_)
      refine tt_op rfl rfl ?_
      refine tt_op rfl rfl ?_
      have qloop : ∀ (j q : Nat) (a : V3) (l3 l4 : Option Value), q + j = p → (∀ q' r' s', q' < q → r' < q' → s' < r' → ¬ g4 P m p q' r' s') → xT xmX6_findBase (3, 0, 0, 0, 0) 12 [some (.ref 64), some (zI p), some (zI q), l3, l4] [] n (mdH h m P bu tb fl co fa fb fs fr nn lv a fat w cm cX cY cZ cD su sv tu im rk ba go) (fun res n' h' => res = none ∧ n' = n ∧ ∃ (a' : V3) (ba' : Nat → Nat), g4 P m (ba' 0) (ba' 1) (ba' 2) (ba' 3) ∧ h' = (mdH h m P bu tb fl co fa fb fs fr nn lv (a') fat w cm cX cY cZ cD su sv tu im rk (ba') go)) := by
        intro j
        induction j with
        | zero =>
          intro q a l3 l4 hq hnq
          have : q = p := by omega
          subst this
          refine tt_op rfl rfl ?_
          refine tt_op rfl rfl ?_
          refine z_icmp rfl (by first | assumption | (unfold R3; omega)) (by first | assumption | (unfold R3; omega)) (fun c => ?_) (fun c => absurd (by simp only [zcd] <;> omega) c)
          refine z_iinc rfl rfl rfl ?_
          refine tt_goto rfl ?_
          refine ihp (q + 1) a _ _ _ (by omega) (fun p' q' r' s' e1 e2 e3 e4 => ?_)
          by_cases e : p' = q
          · subst e; exact hnq q' r' s' e2 e3 e4
          · exact hno p' q' r' s' (by omega) e2 e3 e4
        | succ j ihq =>
          intro q a l3 l4 hq hnq
          refine tt_op rfl rfl ?_
          refine tt_op rfl rfl ?_
          refine z_icmp rfl (by first | assumption | (unfold R3; omega)) (by first | assumption | (unfold R3; omega)) (fun c => absurd c (by simp only [zcd] <;> omega)) (fun c => ?_)
          refine tt_op rfl rfl ?_
          refine tt_op rfl rfl ?_
          have rloop : ∀ (j r : Nat) (a : V3) (l4 : Option Value), r + j = q → (∀ r' s', r' < r → s' < r' → ¬ g4 P m p q r' s') → xT xmX6_findBase (3, 0, 0, 0, 0) 19 [some (.ref 64), some (zI p), some (zI q), some (zI r), l4] [] n (mdH h m P bu tb fl co fa fb fs fr nn lv a fat w cm cX cY cZ cD su sv tu im rk ba go) (fun res n' h' => res = none ∧ n' = n ∧ ∃ (a' : V3) (ba' : Nat → Nat), g4 P m (ba' 0) (ba' 1) (ba' 2) (ba' 3) ∧ h' = (mdH h m P bu tb fl co fa fb fs fr nn lv (a') fat w cm cX cY cZ cD su sv tu im rk (ba') go)) := by
            intro j
            induction j with
            | zero =>
              intro r a l4 hr hnr
              have : r = q := by omega
              subst this
              refine tt_op rfl rfl ?_
              refine tt_op rfl rfl ?_
              refine z_icmp rfl (by first | assumption | (unfold R3; omega)) (by first | assumption | (unfold R3; omega)) (fun c => ?_) (fun c => absurd (by simp only [zcd] <;> omega) c)
              refine z_iinc rfl rfl rfl ?_
              refine tt_goto rfl ?_
              refine ihq (r + 1) a _ _ (by omega) (fun q' r' s' e2 e3 e4 => ?_)
              by_cases e : q' = r
              · subst e; exact hnr r' s' e3 e4
              · exact hnq q' r' s' (by omega) e3 e4
            | succ j ihr =>
              intro r a l4 hr hnr
              refine tt_op rfl rfl ?_
              refine tt_op rfl rfl ?_
              refine z_icmp rfl (by first | assumption | (unfold R3; omega)) (by first | assumption | (unfold R3; omega)) (fun c => absurd c (by simp only [zcd] <;> omega)) (fun c => ?_)
              refine tt_op rfl rfl ?_
              refine tt_op rfl rfl ?_
              have sloop : ∀ (j s : Nat) (a : V3), s + j = r → (∀ s', s' < s → ¬ g4 P m p q r s') → xT xmX6_findBase (3, 0, 0, 0, 0) 27 [some (.ref 64), some (zI p), some (zI q), some (zI r), some (zI s)] [] n (mdH h m P bu tb fl co fa fb fs fr nn lv a fat w cm cX cY cZ cD su sv tu im rk ba go) (fun res n' h' => res = none ∧ n' = n ∧ ∃ (a' : V3) (ba' : Nat → Nat), g4 P m (ba' 0) (ba' 1) (ba' 2) (ba' 3) ∧ h' = (mdH h m P bu tb fl co fa fb fs fr nn lv (a') fat w cm cX cY cZ cD su sv tu im rk (ba') go)) := by
                intro j
                induction j with
                | zero =>
                  intro s a hs' hns
                  have : s = r := by omega
                  subst this
                  refine tt_op rfl rfl ?_
                  refine tt_op rfl rfl ?_
                  refine z_icmp rfl (by first | assumption | (unfold R3; omega)) (by first | assumption | (unfold R3; omega)) (fun c => ?_) (fun c => absurd (by simp only [zcd] <;> omega) c)
                  refine z_iinc rfl rfl rfl ?_
                  refine tt_goto rfl ?_
                  refine ihr (s + 1) a _ (by omega) (fun r' s' e3 e4 => ?_)
                  by_cases e : r' = s
                  · subst e; exact hns s' e4
                  · exact hnr r' s' (by omega) e4
                | succ j ihs =>
                  intro s a hs' hns
                  have p14 : p < 14 := by omega
                  have q14 : q < 14 := by omega
                  have r14 : r < 14 := by omega
                  have s14 : s < 14 := by omega
                  have nxt : ∀ a, ¬ g4 P m p q r s → xT xmX6_findBase (3, 0, 0, 0, 0) 108 [some (.ref 64), some (zI p), some (zI q), some (zI r), some (zI s)] [] n (mdH h m P bu tb fl co fa fb fs fr nn lv a fat w cm cX cY cZ cD su sv tu im rk ba go) (fun res n' h' => res = none ∧ n' = n ∧ ∃ (a' : V3) (ba' : Nat → Nat), g4 P m (ba' 0) (ba' 1) (ba' 2) (ba' 3) ∧ h' = (mdH h m P bu tb fl co fa fb fs fr nn lv (a') fat w cm cX cY cZ cD su sv tu im rk (ba') go)) := by
                    intro a hng
                    refine z_iinc rfl rfl rfl ?_
                    refine tt_goto rfl ?_
                    refine ihs (s + 1) a (by omega) (fun s' e4 => ?_)
                    by_cases e : s' = s
                    · subst e; exact hng
                    · exact hns s' (by omega)
                  refine tt_op rfl rfl ?_
                  refine tt_op rfl rfl ?_
                  refine z_icmp rfl (by first | assumption | (unfold R3; omega)) (by first | assumption | (unfold R3; omega)) (fun c => absurd c (by simp only [zcd] <;> omega)) (fun c => ?_)
                  refine tt_op rfl rfl ?_
                  refine tt_op rfl rfl ?_
                  by_cases cp : isCor P m p
                  rotate_left
                  · refine tt_pV rfl rfl rfl md64 rfl (m_isC hS p14 (zI 0) (fun e => absurd e cp) (fun _ => rfl)) ?_
                    refine z_if rfl (by first | assumption | (unfold R3; omega)) (fun c => ?_) (fun c => absurd (by simp only [zcd] <;> omega) c)
                    exact nxt a (fun e => cp e.1)
                  refine tt_pV rfl rfl rfl md64 rfl (m_isC hS p14 (zI 1) (fun _ => rfl) (fun e => absurd cp e)) ?_
                  refine z_if rfl (by first | assumption | (unfold R3; omega)) (fun c => absurd c (by simp only [zcd] <;> omega)) (fun c => ?_)
                  refine tt_op rfl rfl ?_
                  refine tt_op rfl rfl ?_
                  by_cases cq : isCor P m q
                  rotate_left
                  · refine tt_pV rfl rfl rfl md64 rfl (m_isC hS q14 (zI 0) (fun e => absurd e cq) (fun _ => rfl)) ?_
                    refine z_if rfl (by first | assumption | (unfold R3; omega)) (fun c => ?_) (fun c => absurd (by simp only [zcd] <;> omega) c)
                    exact nxt a (fun e => cq e.2.1)
                  refine tt_pV rfl rfl rfl md64 rfl (m_isC hS q14 (zI 1) (fun _ => rfl) (fun e => absurd cq e)) ?_
                  refine z_if rfl (by first | assumption | (unfold R3; omega)) (fun c => absurd c (by simp only [zcd] <;> omega)) (fun c => ?_)
                  refine tt_op rfl rfl ?_
                  refine tt_op rfl rfl ?_
                  by_cases cr : isCor P m r
                  rotate_left
                  · refine tt_pV rfl rfl rfl md64 rfl (m_isC hS r14 (zI 0) (fun e => absurd e cr) (fun _ => rfl)) ?_
                    refine z_if rfl (by first | assumption | (unfold R3; omega)) (fun c => ?_) (fun c => absurd (by simp only [zcd] <;> omega) c)
                    exact nxt a (fun e => cr e.2.2.1)
                  refine tt_pV rfl rfl rfl md64 rfl (m_isC hS r14 (zI 1) (fun _ => rfl) (fun e => absurd cr e)) ?_
                  refine z_if rfl (by first | assumption | (unfold R3; omega)) (fun c => absurd c (by simp only [zcd] <;> omega)) (fun c => ?_)
                  refine tt_op rfl rfl ?_
                  refine tt_op rfl rfl ?_
                  by_cases cs : isCor P m s
                  rotate_left
                  · refine tt_pV rfl rfl rfl md64 rfl (m_isC hS s14 (zI 0) (fun e => absurd e cs) (fun _ => rfl)) ?_
                    refine z_if rfl (by first | assumption | (unfold R3; omega)) (fun c => ?_) (fun c => absurd (by simp only [zcd] <;> omega) c)
                    exact nxt a (fun e => cs e.2.2.2.1)
                  refine tt_pV rfl rfl rfl md64 rfl (m_isC hS s14 (zI 1) (fun _ => rfl) (fun e => absurd cs e)) ?_
                  refine z_if rfl (by first | assumption | (unfold R3; omega)) (fun c => absurd c (by simp only [zcd] <;> omega)) (fun c => ?_)
                  refine tt_op rfl rfl ?_
                  refine tt_op rfl rfl ?_
                  refine tt_op rfl rfl ?_
                  refine tt_op rfl rfl ?_
                  refine tt_op rfl rfl ?_
                  refine tt_callV (M' := xmX6_sense) rfl rfl rfl md64 rfl (m_sense p14 q14 r14 s14) ?_
                  rintro res n' h' ⟨rfl, rfl, rfl⟩
                  have hB := bxs_bd3 hb p14 q14 r14 s14
                  refine z_if rfl ⟨by omega, by omega⟩ (fun c1 => ?_) (fun c1 => ?_)
                  · simp only [zcd] at c1
                    exact nxt _ (fun e => e.2.2.2.2 c1)
                  · simp only [zcd] at c1
                    refine tt_op rfl rfl ?_
                    refine tt_get rfl md64 (by rfl) ?_
                    refine tt_op rfl rfl ?_
                    refine tt_op rfl rfl ?_
                    refine md_s84 (j := 0) rfl rfl (by decide) ?_
                    refine tt_op rfl rfl ?_
                    refine tt_get rfl md64 (by rfl) ?_
                    refine tt_op rfl rfl ?_
                    refine tt_op rfl rfl ?_
                    refine md_s84 (j := 1) rfl rfl (by decide) ?_
                    refine tt_op rfl rfl ?_
                    refine tt_get rfl md64 (by rfl) ?_
                    refine tt_op rfl rfl ?_
                    refine tt_op rfl rfl ?_
                    refine md_s84 (j := 2) rfl rfl (by decide) ?_
                    refine tt_op rfl rfl ?_
                    refine tt_get rfl md64 (by rfl) ?_
                    refine tt_op rfl rfl ?_
                    refine tt_op rfl rfl ?_
                    refine md_s84 (j := 3) rfl rfl (by decide) ?_
                    refine tt_return rfl rfl (Nat.le_of_ble_eq_true rfl) (Nat.le_of_ble_eq_true rfl) ?_
                    exact ⟨rfl, rfl, crs P p q r, _, ⟨cp, cq, cr, cs, c1⟩, rfl⟩
              exact sloop r 0 a (by omega) (fun s' e => by omega)
          exact rloop q 0 a _ (by omega) (fun r' s' e => by omega)
      exact qloop p 0 a _ _ (by omega) (fun q' r' s' e => by omega)
  exact ploop m 0 a none none none (by omega) (fun p' q' r' s' e => by omega)
theorem dst_bd3 {P : Nat → V3} (hb : pbd P) {p q : Nat} (hp : p < 14) (hq : q < 14) : R3 (dst P p q) := by
  have := dot_bd (vbd_sub (hb q hq) (hb p hp)) (vbd_sub (hb q hq) (hb p hp))
  exact ⟨by unfold dst; omega, by unfold dst; omega⟩
set_option maxRecDepth 10000 in
theorem m_fits (hb : pbd P) {M : Nat} (hM : M < 4) (hba : ∀ k, k < 4 → ba k < 14) (g : Nat → Nat) (hgo : ∀ k, k ≤ M → go k = (g k : Int) ∧ g k < 14) (v : Value) (h1 : (∀ k, k < M → dst P (ba k) (ba M) = dst P (g k) (g M)) → v = zI 1) (h0 : ¬ (∀ k, k < M → dst P (ba k) (ba M) = dst P (g k) (g M)) → v = zI 0) : xPure xmX6_fits 2 [.ref 64, zI ((M + 1 : Nat) : Int)] n (mdH h m P bu tb fl co fa fb fs fr nn lv a fat w cm cX cY cZ cD su sv tu im rk ba go) v := by
  refine xCall.of xgX6_fits rfl ?_
  refine tt_op rfl rfl ?_
  refine tt_op rfl rfl ?_
  have eM : ((M + 1 : Nat) : Int) - 1 = (M : Int) := by omega
  have loop : ∀ (j k : Nat), k + j = M → (∀ i, i < k → dst P (ba i) (ba M) = dst P (g i) (g M)) → xT xmX6_fits (2, 0, 0, 0, 0) 2 [some (.ref 64), some (zI ((M + 1 : Nat) : Int)), some (zI k)] [] n (mdH h m P bu tb fl co fa fb fs fr nn lv a fat w cm cX cY cZ cD su sv tu im rk ba go) (fun r n' h' => r = some v ∧ n' = n ∧ h' = (mdH h m P bu tb fl co fa fb fs fr nn lv a fat w cm cX cY cZ cD su sv tu im rk ba go)) := by
    intro j
    induction j with
    | zero =>
      intro k hk hok
      have : k = M := by omega
      subst this
      refine tt_op rfl rfl ?_
      refine tt_op rfl rfl ?_
      refine tt_op rfl rfl ?_
      refine z_isub rfl ?_
      rw [eM]
      refine z_icmp rfl (by first | assumption | (unfold R3; omega)) (by first | assumption | (unfold R3; omega)) (fun c => ?_) (fun c => absurd (by simp only [zcd] <;> omega) c)
      refine tt_op rfl rfl ?_
      refine tt_ireturn rfl rfl (by rfl) (Nat.le_of_ble_eq_true rfl) (Nat.le_of_ble_eq_true rfl) ?_
      rw [h1 hok]
      exact ⟨rfl, rfl, rfl⟩
    | succ j ih =>
      intro k hk hok
      have b1 := hba k (by omega)
      have b2 := hba M (by omega)
      obtain ⟨g1, g2⟩ := hgo k (by omega)
      obtain ⟨g3, g4⟩ := hgo M (by omega)
      refine tt_op rfl rfl ?_
      refine tt_op rfl rfl ?_
      refine tt_op rfl rfl ?_
      refine z_isub rfl ?_
      rw [eM]
      refine z_icmp rfl (by first | assumption | (unfold R3; omega)) (by first | assumption | (unfold R3; omega)) (fun c => absurd c (by simp only [zcd] <;> omega)) (fun c => ?_)
      refine tt_op rfl rfl ?_
      refine tt_op rfl rfl ?_
      refine tt_get rfl md64 (by rfl) ?_
      refine tt_op rfl rfl ?_
      refine z_iald rfl md84 rfl (by omega) (by decide) ?_
      refine tt_op rfl rfl ?_
      refine tt_get rfl md64 (by rfl) ?_
      refine tt_op rfl rfl ?_
      refine tt_op rfl rfl ?_
      refine z_isub rfl ?_
      rw [eM]
      refine z_iald (j := M) rfl md84 rfl (by omega) (by decide) ?_
      refine tt_pV rfl rfl rfl md64 rfl (m_apart b1 b2) ?_
      refine tt_op rfl rfl ?_
      refine tt_op rfl rfl ?_
      refine tt_get rfl md64 (by rfl) ?_
      refine tt_op rfl rfl ?_
      refine z_iald (j := k) rfl md85 rfl (by omega) (by decide) ?_
      rw [g1]
      refine tt_op rfl rfl ?_
      refine tt_get rfl md64 (by rfl) ?_
      refine tt_op rfl rfl ?_
      refine tt_op rfl rfl ?_
      refine z_isub rfl ?_
      rw [eM]
      refine z_iald (j := M) rfl md85 rfl (by omega) (by decide) ?_
      rw [g3]
      refine tt_pV rfl rfl rfl md64 rfl (m_apart g2 g4) ?_
      refine z_icmp rfl (dst_bd3 hb b1 b2) (dst_bd3 hb g2 g4) (fun c1 => ?_) (fun c1 => ?_)
      · simp only [zcd] at c1
        refine z_iinc rfl rfl rfl ?_
        refine tt_goto rfl ?_
        refine ih (k + 1) (by omega) (fun i hi => ?_)
        by_cases e : i = k
        · subst e; exact c1
        · exact hok i (by omega)
      · simp only [zcd] at c1
        refine tt_op rfl rfl ?_
        refine tt_ireturn rfl rfl (by rfl) (Nat.le_of_ble_eq_true rfl) (Nat.le_of_ble_eq_true rfl) ?_
        rw [h0 (fun e => c1 (e k (by omega)))]
        exact ⟨rfl, rfl, rfl⟩
  exact loop M 0 (by omega) (fun i hi => by omega)
set_option maxRecDepth 10000 in
set_option maxHeartbeats 1000000 in
theorem m_imageOf (hS : SF P m (fl, co, fa, fb, fs, fr, nn, lv, fat)) (hba : ∀ k, k < 4 → ba k < 14) (g : Nat → Nat) (hgo : ∀ k, k < 4 → go k = (g k : Int) ∧ g k < 14) (hf : fitG P ba g) (hbx : bxs P (ba 0) (ba 1) (ba 2) (ba 3) ≠ 0) {p : Nat} (cp : isCor P m p) : xPure xmX6_imageOf 3 [.ref 64, zI p] n (mdH h m P bu tb fl co fa fb fs fr nn lv a fat w cm cX cY cZ cD su sv tu im rk ba go) (zI (imQ P m ba g p)) := by
  obtain ⟨_, ⟨hm, hb, hD⟩, hs, hA, _, hbd, hmt, hrn⟩ := SF_u hS
  have p14 : p < 14 := by have := cp.1; omega
  refine xCall.of xgX6_imageOf rfl ?_
  refine tt_op rfl rfl ?_
  refine tt_op rfl rfl ?_
  have loop : ∀ (j q : Nat) (l3 l4 : Option Value), q + j = m → (∀ q', q' < q → ¬ (isCor P m q' ∧ isIm P ba g p q')) → xT xmX6_imageOf (3, 0, 0, 0, 0) 2 [some (.ref 64), some (zI p), some (zI q), l3, l4] [] n (mdH h m P bu tb fl co fa fb fs fr nn lv a fat w cm cX cY cZ cD su sv tu im rk ba go) (fun r n' h' => r = some (zI (imQ P m ba g p)) ∧ n' = n ∧ h' = (mdH h m P bu tb fl co fa fb fs fr nn lv a fat w cm cX cY cZ cD su sv tu im rk ba go)) := by
    intro j
    induction j with
    | zero =>
      intro q l3 l4 hq hno
      have : q = m := by omega
      subst this
      refine tt_op rfl rfl ?_
      refine tt_op rfl rfl ?_
      refine tt_get rfl md64 (by rfl) ?_
      refine z_icmp rfl (by first | assumption | (unfold R3; omega)) (by first | assumption | (unfold R3; omega)) (fun c => ?_) (fun c => absurd (by simp only [zcd] <;> omega) c)
      refine tt_op rfl rfl ?_
      refine tt_ireturn rfl rfl (by rfl) (Nat.le_of_ble_eq_true rfl) (Nat.le_of_ble_eq_true rfl) ?_
      rw [imQ_no (fun e => by obtain ⟨_, q', c1, c2⟩ := e; exact hno q' c1.1 ⟨c1, c2⟩)]
      exact ⟨rfl, rfl, rfl⟩
    | succ j ih =>
      intro q l3 l4 hq hno
      have q14 : q < 14 := by omega
      have nxt : ∀ l4, ¬ (isCor P m q ∧ isIm P ba g p q) → xT xmX6_imageOf (3, 0, 0, 0, 0) 68 [some (.ref 64), some (zI p), some (zI q), some (zI 0), l4] [] n (mdH h m P bu tb fl co fa fb fs fr nn lv a fat w cm cX cY cZ cD su sv tu im rk ba go) (fun r n' h' => r = some (zI (imQ P m ba g p)) ∧ n' = n ∧ h' = (mdH h m P bu tb fl co fa fb fs fr nn lv a fat w cm cX cY cZ cD su sv tu im rk ba go)) := by
        intro l4 hn
        refine tt_op rfl rfl ?_
        refine z_if rfl (by first | assumption | (unfold R3; omega)) (fun c => ?_) (fun c => absurd (by simp only [zcd] <;> omega) c)
        refine z_iinc rfl rfl rfl ?_
        refine tt_goto rfl ?_
        refine ih (q + 1) _ _ (by omega) (fun q' hq' => ?_)
        by_cases e : q' = q
        · subst e; exact hn
        · exact hno q' (by omega)
      refine tt_op rfl rfl ?_
      refine tt_op rfl rfl ?_
      refine tt_get rfl md64 (by rfl) ?_
      refine z_icmp rfl (by first | assumption | (unfold R3; omega)) (by first | assumption | (unfold R3; omega)) (fun c => absurd c (by simp only [zcd] <;> omega)) (fun c => ?_)
      refine tt_op rfl rfl ?_
      refine tt_op rfl rfl ?_
      by_cases cq : isCor P m q
      rotate_left
      · refine tt_pV rfl rfl rfl md64 rfl (m_isC hS q14 (zI 0) (fun e => absurd e cq) (fun _ => rfl)) ?_
        refine tt_op rfl rfl ?_
        refine tt_op rfl rfl ?_
        refine tt_op rfl rfl ?_
        refine tt_op rfl rfl ?_
        refine tt_op rfl rfl ?_
        refine z_icmp rfl (by first | assumption | (unfold R3; omega)) (by first | assumption | (unfold R3; omega)) (fun c => absurd c (by simp only [zcd] <;> omega)) (fun c => ?_)
        refine tt_op rfl rfl ?_
        refine z_if rfl (by first | assumption | (unfold R3; omega)) (fun c => ?_) (fun c => absurd (by simp only [zcd] <;> omega) c)
        exact nxt _ (fun e => cq e.1)
      refine tt_pV rfl rfl rfl md64 rfl (m_isC hS q14 (zI 1) (fun _ => rfl) (fun e => absurd cq e)) ?_
      refine tt_op rfl rfl ?_
      refine tt_op rfl rfl ?_
      refine tt_op rfl rfl ?_
      have kloop : ∀ (j k : Nat), k + j = 4 → (∀ i, i < k → dst P p (ba i) = dst P q (g i)) → xT xmX6_imageOf (3, 0, 0, 0, 0) 19 [some (.ref 64), some (zI p), some (zI q), some (zI 1), some (zI k)] [] n (mdH h m P bu tb fl co fa fb fs fr nn lv a fat w cm cX cY cZ cD su sv tu im rk ba go) (fun r n' h' => r = some (zI (imQ P m ba g p)) ∧ n' = n ∧ h' = (mdH h m P bu tb fl co fa fb fs fr nn lv a fat w cm cX cY cZ cD su sv tu im rk ba go)) := by
        intro j
        induction j with
        | zero =>
          intro k hk hok
          have : k = 4 := by omega
          subst this
          refine tt_op rfl rfl ?_
          refine tt_op rfl rfl ?_
          refine z_icmp rfl (by first | assumption | (unfold R3; omega)) (by first | assumption | (unfold R3; omega)) (fun c => ?_) (fun c => absurd (by simp only [zcd] <;> omega) c)
          refine tt_op rfl rfl ?_
          refine z_if rfl (by first | assumption | (unfold R3; omega)) (fun c => absurd c (by simp only [zcd] <;> omega)) (fun c => ?_)
          refine tt_op rfl rfl ?_
          refine tt_ireturn rfl rfl (by rfl) (Nat.le_of_ble_eq_true rfl) (Nat.le_of_ble_eq_true rfl) ?_
          rw [imQ_yes hD hf hbx cp cq hok]
          exact ⟨rfl, rfl, rfl⟩
        | succ j ihk =>
          intro k hk hok
          have b1 := hba k (by omega)
          obtain ⟨g1, g2⟩ := hgo k (by omega)
          refine tt_op rfl rfl ?_
          refine tt_op rfl rfl ?_
          refine z_icmp rfl (by first | assumption | (unfold R3; omega)) (by first | assumption | (unfold R3; omega)) (fun c => absurd c (by simp only [zcd] <;> omega)) (fun c => ?_)
          refine tt_op rfl rfl ?_
          refine z_if rfl (by first | assumption | (unfold R3; omega)) (fun c => absurd c (by simp only [zcd] <;> omega)) (fun c => ?_)
          refine tt_op rfl rfl ?_
          refine tt_op rfl rfl ?_
          refine tt_op rfl rfl ?_
          refine tt_get rfl md64 (by rfl) ?_
          refine tt_op rfl rfl ?_
          refine z_iald (j := k) rfl md84 rfl (by omega) (by decide) ?_
          refine tt_pV rfl rfl rfl md64 rfl (m_apart p14 b1) ?_
          refine tt_op rfl rfl ?_
          refine tt_op rfl rfl ?_
          refine tt_op rfl rfl ?_
          refine tt_get rfl md64 (by rfl) ?_
          refine tt_op rfl rfl ?_
          refine z_iald (j := k) rfl md85 rfl (by omega) (by decide) ?_
          rw [g1]
          refine tt_pV rfl rfl rfl md64 rfl (m_apart q14 g2) ?_
          refine z_icmp rfl (dst_bd3 hb p14 b1) (dst_bd3 hb q14 g2) (fun c1 => ?_) (fun c1 => ?_)
          · simp only [zcd] at c1
            refine tt_op rfl rfl ?_
            refine tt_op rfl rfl ?_
            refine z_iinc rfl rfl rfl ?_
            refine tt_goto rfl ?_
            by_cases e4 : k + 1 = 4
            · have ek : (k : Int) + 1 = 4 := by omega
              rw [ek]
              refine tt_op rfl rfl ?_
              refine tt_op rfl rfl ?_
              refine z_icmp rfl (by first | assumption | (unfold R3; omega)) (by first | assumption | (unfold R3; omega)) (fun c => ?_) (fun c => absurd (by simp only [zcd] <;> omega) c)
              exact nxt _ (fun e => c1 (e.2 k (by omega)))
            · refine tt_op rfl rfl ?_
              refine tt_op rfl rfl ?_
              refine z_icmp rfl (by first | assumption | (unfold R3; omega)) (by first | assumption | (unfold R3; omega)) (fun c => absurd c (by simp only [zcd] <;> omega)) (fun c => ?_)
              refine tt_op rfl rfl ?_
              refine z_if rfl (by first | assumption | (unfold R3; omega)) (fun c => ?_) (fun c => absurd (by simp only [zcd] <;> omega) c)
              exact nxt _ (fun e => c1 (e.2 k (by omega)))
          · simp only [zcd] at c1
            refine tt_op rfl rfl ?_
            refine tt_goto rfl ?_
            refine tt_op rfl rfl ?_
            refine z_iinc rfl rfl rfl ?_
            refine tt_goto rfl ?_
            refine ihk (k + 1) (by omega) (fun i hi => ?_)
            by_cases e : i = k
            · subst e; omega
            · exact hok i (by omega)
      exact kloop 4 0 (by omega) (fun i hi => by omega)
  exact loop m 0 none none (by omega) (fun q' hq' => by omega)
end MD2
