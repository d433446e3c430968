/-! The reference: counting edges, points in and out -/
theorem ct_cut (R : Nat → Prop) (p : Nat) : ∀ N, p ≤ N → ct (fun q => R q ∧ q < p) N = ct R p
  | 0, h => by rw [show p = 0 by omega]; rfl
  | N + 1, h => by
    by_cases e : p = N + 1
    · subst e; exact ct_congr (fun k hk => ⟨fun h => h.1, fun h => ⟨h, hk⟩⟩)
    · rw [ct_f (p := fun q => R q ∧ q < p) (fun h => by have := h.2; omega)]; exact ct_cut R p N (by omega)
theorem sm_ext {f : Nat → Nat} {m : Nat} : ∀ N, m ≤ N → (∀ k, m ≤ k → k < N → f k = 0) → sm f N = sm f m
  | 0, h, _ => by rw [show m = 0 by omega]
  | N + 1, h, hz => by
    by_cases e : m = N + 1
    · rw [e]
    · simp only [sm]; rw [hz N (by omega) (by omega), sm_ext N (by omega) (fun k a b => hz k a (by omega))]; rfl
theorem nE_sm {P : Nat → V3} {m : Nat} (hm : m ≤ 14) : sm (fun p => ct (fun q => isEd P m p q) p) m = nE P m := by
  unfold nE
  rw [sm_ext (m := m) 14 hm (fun k a _ => ct_none (fun q _ h => by have := h.1.2.1.1; omega))]
  exact sm_congr (fun p hp => (ct_cut (fun q => isEd P m p q) p 14 (by omega)).symm)
section M6
variable {h : xHp} {m : Nat} {P : Nat → V3} {bu tb fl co fa : Nat} {fb fs fr : Nat → Nat} {nn : Nat → V3} {lv : Nat → Int} {a : V3} {fat : Nat → Nat} {w : Int × V3} {cm : Int} {cX cY cZ cD su sv : Nat → Int} {tu : Nat} {im : Nat → Int} {rk ba : Nat → Nat} {go : Nat → Int}
variable {n : Nat} {hh : xHp}
set_option maxRecDepth 10000 in
theorem m_edges (H : mHp hh m P cm cX cY cZ cD) : xCall xmX6_edges 100 0 0 [.ref 64] n hh (mPo hh m P cm cX cY cZ cD n (zI (if 0 < (blF P m).1 then (hE P m : Int) else -3))) := by
  obtain ⟨fs, hq⟩ := H.at
  refine xCall.of xgX6_edges rfl ?_
  refine tt_op rfl rfl ?_
  refine tt_callV (M' := xmX6_noSolid) rfl rfl rfl hq rfl (m_noSolid H) ?_
  rintro res n' h' ⟨rfl, h64, ⟨hF, rfl, hM⟩ | ⟨hF, rfl, hM⟩⟩
  · rw [if_neg hF]
    refine z_if rfl (by first | assumption | (unfold R3; omega)) (fun c => absurd c (by simp only [zcd] <;> omega)) (fun c => ?_)
    refine tt_op rfl rfl ?_
    refine tt_ireturn rfl rfl (by rfl) (Nat.le_of_ble_eq_true rfl) (Nat.le_of_ble_eq_true rfl) ?_
    exact ⟨rfl, h64, hM, rfl⟩
  rw [if_pos hF]
  have hM' := hM.hp
  obtain ⟨h, tb, fl, co, fa, fb, fs, fr, nn, lv, a, fat, w, su, sv, tu, im, rk, ba, go, rfl, hI, hS⟩ := hM
  obtain ⟨_, ⟨hm, hb, hD⟩, hs, hA, _, hbd, hmt, hrn⟩ := SF_u hS
  refine z_if rfl (by first | assumption | (unfold R3; omega)) (fun c => ?_) (fun c => absurd (by simp only [zcd] <;> omega) c)
  refine tt_op rfl rfl ?_
  refine tt_op rfl rfl ?_
  refine tt_op rfl rfl ?_
  refine tt_op rfl rfl ?_
  have loop : ∀ (j p : Nat) (l3 : Option Value), p + j = m → xT xmX6_edges (100, 0, 0, 0, 0) 14 [some (.ref 64), some (zI (sm (fun p => ct (fun q => isEd P m p q) p) p : Nat)), some (zI p), l3] [] n' (mdH h m P (1) tb fl co fa fb fs fr nn lv a fat w cm cX cY cZ cD su sv tu im rk ba go) (mPo hh m P cm cX cY cZ cD n' (zI (hE P m : Int))) := by
    intro j
    induction j with
    | zero =>
      intro p l3 hp
      have : p = m := by omega
      subst this
      refine tt_op rfl rfl ?_
      refine tt_op rfl rfl ?_
      refine tt_get rfl md64 (by rfl) ?_
      refine z_icmp rfl (by first | assumption | (unfold R3; omega)) (by first | assumption | (unfold R3; omega)) (fun c => ?_) (fun c => absurd (by simp only [zcd] <;> omega) c)
      refine tt_op rfl rfl ?_
      refine tt_ireturn rfl rfl (by rfl) (Nat.le_of_ble_eq_true rfl) (Nat.le_of_ble_eq_true rfl) ?_
      refine ⟨rfl, h64, hM', ?_⟩
      rw [nE_sm hm, hE_spec hm (fun j hj => hb j (by omega)) hD]
    | succ j ih =>
      intro p l3 hp
      refine tt_op rfl rfl ?_
      refine tt_op rfl rfl ?_
      refine tt_get rfl md64 (by rfl) ?_
      refine z_icmp rfl (by first | assumption | (unfold R3; omega)) (by first | assumption | (unfold R3; omega)) (fun c => absurd c (by simp only [zcd] <;> omega)) (fun c => ?_)
      refine tt_op rfl rfl ?_
      refine tt_op rfl rfl ?_
      have inn : ∀ (j q : Nat), q + j = p → xT xmX6_edges (100, 0, 0, 0, 0) 24 [some (.ref 64), some (zI (sm (fun p => ct (fun q => isEd P m p q) p) p + ct (fun q => isEd P m p q) q : Nat)), some (zI p), some (zI q)] [] n' (mdH h m P (1) tb fl co fa fb fs fr nn lv a fat w cm cX cY cZ cD su sv tu im rk ba go) (mPo hh m P cm cX cY cZ cD n' (zI (hE P m : Int))) := by
        intro j
        induction j with
        | zero =>
          intro q hq
          have : q = p := by omega
          subst this
          refine tt_op rfl rfl ?_
          refine tt_op rfl rfl ?_
          refine z_icmp rfl (by first | assumption | (unfold R3; omega)) (by first | assumption | (unfold R3; omega)) (fun c => ?_) (fun c => absurd (by simp only [zcd] <;> omega) c)
          refine z_iinc rfl rfl rfl ?_
          refine tt_goto rfl ?_
          exact ih (q + 1) _ (by omega)
        | succ j ihq =>
          intro q hq
          refine tt_op rfl rfl ?_
          refine tt_op rfl rfl ?_
          refine z_icmp rfl (by first | assumption | (unfold R3; omega)) (by first | assumption | (unfold R3; omega)) (fun c => absurd c (by simp only [zcd] <;> omega)) (fun c => ?_)
          refine tt_op rfl rfl ?_
          refine tt_op rfl rfl ?_
          refine tt_op rfl rfl ?_
          refine tt_op rfl rfl ?_
          by_cases he : isEd P m p q
          · refine tt_pV rfl rfl rfl md64 rfl (m_isEdge hS (p := p) (q := q) (by omega) (by omega) (zI 1) (fun _ => rfl) (fun e => absurd he e)) ?_
            refine z_if rfl (by first | assumption | (unfold R3; omega)) (fun c => absurd c (by simp only [zcd] <;> omega)) (fun c => ?_)
            refine tt_op rfl rfl ?_
            refine tt_goto rfl ?_
            refine z_iadd rfl ?_
            refine tt_op rfl rfl ?_
            refine z_iinc rfl rfl rfl ?_
            refine tt_goto rfl ?_
            have t := ihq (q + 1) (by omega)
            rw [ct_t he] at t
            exact t
          · refine tt_pV rfl rfl rfl md64 rfl (m_isEdge hS (p := p) (q := q) (by omega) (by omega) (zI 0) (fun e => absurd e he) (fun _ => rfl)) ?_
            have t := ihq (q + 1) (by omega)
            rw [ct_f (p := fun q => isEd P m p q) he] at t
            generalize sm (fun p => ct (fun q => isEd P m p q) p) p + ct (fun q => isEd P m p q) q = M at t ⊢
            refine z_if rfl (by first | assumption | (unfold R3; omega)) (fun c => ?_) (fun c => absurd (by simp only [zcd] <;> omega) c)
            refine tt_op rfl rfl ?_
            refine z_iadd rfl ?_
            refine tt_op rfl rfl ?_
            refine z_iinc rfl rfl rfl ?_
            refine tt_goto rfl ?_
            rw [Int.add_zero]
            exact t
      have t := inn p 0 (by omega)
      exact t
  exact loop m 0 none (by omega)
set_option maxRecDepth 10000 in
theorem m_clear (H : mHp hh m P cm cX cY cZ cD) : xCall xmX6_clear 100 0 0 [.ref 64] n hh (fun r n' h' => n' = n ∧ (∀ j, j < 64 → h' j = hh j) ∧ mHp h' 0 P (-1) cX cY cZ cD ∧ r = some (zI m)) := by
  obtain ⟨h, bu, tb, fl, co, fa, fb, fs, fr, nn, lv, a, fat, w, su, sv, tu, im, rk, ba, go, rfl, hI⟩ := H
  obtain ⟨⟨hm, hb, hD⟩, hbd, hbu, htb, hB, hT⟩ := hI
  refine xCall.of xgX6_clear rfl ?_
  refine tt_op rfl rfl ?_
  refine tt_get rfl md64 (by rfl) ?_
  refine tt_op rfl rfl ?_
  refine tt_op rfl rfl ?_
  refine tt_op rfl rfl ?_
  refine md_pm (x := 0) rfl (by decide) ?_
  refine tt_op rfl rfl ?_
  refine tt_op rfl rfl ?_
  refine md_pbu (x := 0) (Or.inl rfl) rfl (by decide) ?_
  refine tt_op rfl rfl ?_
  refine tt_op rfl rfl ?_
  refine md_pcm (x := -1) rfl (by decide) ?_
  refine tt_op rfl rfl ?_
  refine tt_ireturn rfl rfl (by rfl) (Nat.le_of_ble_eq_true rfl) (Nat.le_of_ble_eq_true rfl) ?_
  refine ⟨rfl, fun j hj => by rw [md_lo hj, md_lo hj], ⟨h, 0, tb, fl, co, fa, fb, fs, fr, nn, lv, a, fat, w, su, sv, tu, im, rk, ba, go, rfl, ⟨by omega, hb, fun j k hj => by omega⟩, hbd, Or.inl rfl, htb, fun e => absurd e (by decide), fun e => absurd e (by decide)⟩, rfl⟩
theorem Dis_add {P : Nat → V3} {m : Nat} (hD : Dis P m) {u : V3} (hu : ¬ hasP P m u) : Dis (vup P m u) (m + 1) := by
  intro j k hj hk e
  unfold vup at e
  by_cases h1 : j = m <;> by_cases h2 : k = m
  · omega
  · rw [if_pos h1, if_neg h2] at e
    exact absurd ⟨k, by omega, e.symm⟩ hu
  · rw [if_neg h1, if_pos h2] at e
    exact absurd ⟨j, by omega, e⟩ hu
  · rw [if_neg h1, if_neg h2] at e
    exact hD j k (by omega) (by omega) e
theorem pbd_add {P : Nat → V3} {m : Nat} (hb : pbd P) {u : V3} (hu : vbd 20 u) : pbd (vup P m u) := by
  intro j hj
  unfold vup
  split
  · exact hu
  · exact hb j hj
set_option maxRecDepth 10000 in
set_option maxHeartbeats 1000000 in
theorem m_point (H : mHp hh m P cm cX cY cZ cD) (x y z : Int) (hx : R3 x) (hy : R3 y) (hz : R3 z) : xCall xmX6_point 100 0 0 [.ref 64, zI x, zI y, zI z] n hh (fun r n' h' => n' = n ∧ (∀ j, j < 64 → h' j = hh j) ∧ ((¬ (zwi x 20 ∧ zwi y 20 ∧ zwi z 20) ∧ r = some (zI (-2)) ∧ mHp h' m P cm cX cY cZ cD) ∨ ((zwi x 20 ∧ zwi y 20 ∧ zwi z 20) ∧ hasP P m (x, y, z) ∧ r = some (zI (-3)) ∧ mHp h' m P cm cX cY cZ cD) ∨ ((zwi x 20 ∧ zwi y 20 ∧ zwi z 20) ∧ ¬ hasP P m (x, y, z) ∧ m = 14 ∧ r = some (zI (-4)) ∧ mHp h' m P cm cX cY cZ cD) ∨ ((zwi x 20 ∧ zwi y 20 ∧ zwi z 20) ∧ ¬ hasP P m (x, y, z) ∧ m < 14 ∧ r = some (zI m) ∧ mHp h' (m + 1) (vup P m (x, y, z)) (-1) cX cY cZ cD))) := by
  have H0 := H
  obtain ⟨h, bu, tb, fl, co, fa, fb, fs, fr, nn, lv, a, fat, w, su, sv, tu, im, rk, ba, go, rfl, hI⟩ := H
  obtain ⟨⟨hm, hb, hD⟩, hbd, hbu, htb, hB, hT⟩ := hI
  have no : ¬ (zwi x 20 ∧ zwi y 20 ∧ zwi z 20) → ∀ l4, xT xmX6_point (100, 0, 0, 0, 0) 33 [some (.ref 64), some (zI x), some (zI y), some (zI z), l4] [] n (mdH h m P bu tb fl co fa fb fs fr nn lv a fat w cm cX cY cZ cD su sv tu im rk ba go) (fun r n' h' => n' = n ∧ (∀ j, j < 64 → h' j = (mdH h m P bu tb fl co fa fb fs fr nn lv a fat w cm cX cY cZ cD su sv tu im rk ba go) j) ∧ ((¬ (zwi x 20 ∧ zwi y 20 ∧ zwi z 20) ∧ r = some (zI (-2)) ∧ mHp h' m P cm cX cY cZ cD) ∨ ((zwi x 20 ∧ zwi y 20 ∧ zwi z 20) ∧ hasP P m (x, y, z) ∧ r = some (zI (-3)) ∧ mHp h' m P cm cX cY cZ cD) ∨ ((zwi x 20 ∧ zwi y 20 ∧ zwi z 20) ∧ ¬ hasP P m (x, y, z) ∧ m = 14 ∧ r = some (zI (-4)) ∧ mHp h' m P cm cX cY cZ cD) ∨ ((zwi x 20 ∧ zwi y 20 ∧ zwi z 20) ∧ ¬ hasP P m (x, y, z) ∧ m < 14 ∧ r = some (zI m) ∧ mHp h' (m + 1) (vup P m (x, y, z)) (-1) cX cY cZ cD))) := by
    intro e l4
    refine tt_op rfl rfl ?_
    refine tt_ireturn rfl rfl (by rfl) (Nat.le_of_ble_eq_true rfl) (Nat.le_of_ble_eq_true rfl) ?_
    exact ⟨rfl, fun j _ => rfl, Or.inl ⟨e, rfl, H0⟩⟩
  refine xCall.of xgX6_point rfl ?_
  refine tt_op rfl rfl ?_
  refine tt_op rfl rfl ?_
  refine tt_op rfl rfl ?_
  refine tt_pS rfl rfl rfl rfl (m_in x (-20) 20 hx ⟨by decide, by decide⟩ ⟨by decide, by decide⟩ _ _) ?_
  by_cases c1 : -20 ≤ x ∧ x ≤ 20
  rotate_left
  · rw [if_neg c1]
    refine z_if rfl (by first | assumption | (unfold R3; omega)) (fun c => ?_) (fun c => absurd (by simp only [zcd] <;> omega) c)
    exact no (fun e => c1 e.1) _
  rw [if_pos c1]
  refine z_if rfl (by first | assumption | (unfold R3; omega)) (fun c => absurd c (by simp only [zcd] <;> omega)) (fun c => ?_)
  refine tt_op rfl rfl ?_
  refine tt_op rfl rfl ?_
  refine tt_op rfl rfl ?_
  refine tt_pS rfl rfl rfl rfl (m_in y (-20) 20 hy ⟨by decide, by decide⟩ ⟨by decide, by decide⟩ _ _) ?_
  by_cases c2 : -20 ≤ y ∧ y ≤ 20
  rotate_left
  · rw [if_neg c2]
    refine z_if rfl (by first | assumption | (unfold R3; omega)) (fun c => ?_) (fun c => absurd (by simp only [zcd] <;> omega) c)
    exact no (fun e => c2 e.2.1) _
  rw [if_pos c2]
  refine z_if rfl (by first | assumption | (unfold R3; omega)) (fun c => absurd c (by simp only [zcd] <;> omega)) (fun c => ?_)
  refine tt_op rfl rfl ?_
  refine tt_op rfl rfl ?_
  refine tt_op rfl rfl ?_
  refine tt_pS rfl rfl rfl rfl (m_in z (-20) 20 hz ⟨by decide, by decide⟩ ⟨by decide, by decide⟩ _ _) ?_
  by_cases c3 : -20 ≤ z ∧ z ≤ 20
  rotate_left
  · rw [if_neg c3]
    refine z_if rfl (by first | assumption | (unfold R3; omega)) (fun c => absurd c (by simp only [zcd] <;> omega)) (fun c => ?_)
    exact no (fun e => c3 e.2.2) _
  rw [if_pos c3]
  have hw : zwi x 20 ∧ zwi y 20 ∧ zwi z 20 := ⟨c1, c2, c3⟩
  refine z_if rfl (by first | assumption | (unfold R3; omega)) (fun c => ?_) (fun c => absurd (by simp only [zcd] <;> omega) c)
  refine tt_op rfl rfl ?_
  refine tt_op rfl rfl ?_
  have loop : ∀ (j k : Nat), k + j = m → (∀ i, i < k → P i ≠ (x, y, z)) → xT xmX6_point (100, 0, 0, 0, 0) 39 [some (.ref 64), some (zI x), some (zI y), some (zI z), some (zI k)] [] n (mdH h m P bu tb fl co fa fb fs fr nn lv a fat w cm cX cY cZ cD su sv tu im rk ba go) (fun r n' h' => n' = n ∧ (∀ j, j < 64 → h' j = (mdH h m P bu tb fl co fa fb fs fr nn lv a fat w cm cX cY cZ cD su sv tu im rk ba go) j) ∧ ((¬ (zwi x 20 ∧ zwi y 20 ∧ zwi z 20) ∧ r = some (zI (-2)) ∧ mHp h' m P cm cX cY cZ cD) ∨ ((zwi x 20 ∧ zwi y 20 ∧ zwi z 20) ∧ hasP P m (x, y, z) ∧ r = some (zI (-3)) ∧ mHp h' m P cm cX cY cZ cD) ∨ ((zwi x 20 ∧ zwi y 20 ∧ zwi z 20) ∧ ¬ hasP P m (x, y, z) ∧ m = 14 ∧ r = some (zI (-4)) ∧ mHp h' m P cm cX cY cZ cD) ∨ ((zwi x 20 ∧ zwi y 20 ∧ zwi z 20) ∧ ¬ hasP P m (x, y, z) ∧ m < 14 ∧ r = some (zI m) ∧ mHp h' (m + 1) (vup P m (x, y, z)) (-1) cX cY cZ cD))) := by
    intro j
    induction j with
    | zero =>
      intro k hk hno
      have : k = m := by omega
      subst this
      have hnh : ¬ hasP P k (x, y, z) := fun ⟨i, i1, i2⟩ => hno i i1 i2
      refine tt_op rfl rfl ?_
      refine tt_op rfl rfl ?_
      refine tt_get rfl md64 (by rfl) ?_
      refine z_icmp rfl (by first | assumption | (unfold R3; omega)) (by first | assumption | (unfold R3; omega)) (fun c => ?_) (fun c => absurd (by simp only [zcd] <;> omega) c)
      refine tt_op rfl rfl ?_
      refine tt_get rfl md64 (by rfl) ?_
      refine tt_op rfl rfl ?_
      refine z_icmp rfl (by first | assumption | (unfold R3; omega)) (by first | assumption | (unfold R3; omega)) (fun c4 => ?_) (fun c4 => ?_)
      · simp only [zcd] at c4
        have hlt : k < 14 := by omega
        refine tt_op rfl rfl ?_
        refine tt_get rfl md64 (by rfl) ?_
        refine tt_op rfl rfl ?_
        refine tt_get rfl md64 (by rfl) ?_
        refine tt_op rfl rfl ?_
        refine md_s65 (j := k) rfl rfl hlt ?_
        refine tt_op rfl rfl ?_
        refine tt_get rfl md64 (by rfl) ?_
        refine tt_op rfl rfl ?_
        refine tt_get rfl md64 (by rfl) ?_
        refine tt_op rfl rfl ?_
        refine md_s66 (j := k) rfl rfl hlt ?_
        refine tt_op rfl rfl ?_
        refine tt_get rfl md64 (by rfl) ?_
        refine tt_op rfl rfl ?_
        refine tt_get rfl md64 (by rfl) ?_
        refine tt_op rfl rfl ?_
        refine md_s67 (j := k) rfl rfl hlt ?_
        refine tt_op rfl rfl ?_
        refine tt_op rfl rfl ?_
        refine tt_get rfl md64 (by rfl) ?_
        refine tt_op rfl rfl ?_
        refine z_iadd rfl ?_
        refine md_pm (x := k + 1) rfl (by decide) ?_
        refine tt_op rfl rfl ?_
        refine tt_op rfl rfl ?_
        refine md_pbu (x := 0) (Or.inl rfl) rfl (by decide) ?_
        refine tt_op rfl rfl ?_
        refine tt_op rfl rfl ?_
        refine md_pcm (x := -1) rfl (by decide) ?_
        refine tt_op rfl rfl ?_
        refine tt_get rfl md64 (by rfl) ?_
        refine tt_op rfl rfl ?_
        refine z_isub rfl ?_
        refine tt_ireturn rfl rfl (by rfl) (Nat.le_of_ble_eq_true rfl) (Nat.le_of_ble_eq_true rfl) ?_
        have eP : vup (vup (vup P k (x, (P k).2)) k ((vup P k (x, (P k).2) k).1, y, (vup P k (x, (P k).2) k).2.2)) k ((vup (vup P k (x, (P k).2)) k ((vup P k (x, (P k).2) k).1, y, (vup P k (x, (P k).2) k).2.2) k).1, (vup (vup P k (x, (P k).2)) k ((vup P k (x, (P k).2) k).1, y, (vup P k (x, (P k).2) k).2.2) k).2.1, z) = vup P k (x, y, z) := by
          simp only [vup_at, vup_vup]
        rw [eP]
        refine ⟨rfl, fun j hj => by rw [md_lo hj, md_lo hj], Or.inr (Or.inr (Or.inr ⟨hw, hnh, hlt, ?_, h, 0, tb, fl, co, fa, fb, fs, fr, nn, lv, a, fat, w, su, sv, tu, im, rk, ba, go, rfl, ⟨by omega, pbd_add hb ⟨c1, c2, c3⟩, Dis_add hD hnh⟩, hbd, Or.inl rfl, htb, fun e => absurd e (by decide), fun e => absurd e (by decide)⟩))⟩
        have e1 : ((k + 1 : Nat) : Int) - 1 = (k : Int) := by omega
        exact congrArg (fun t : Int => some (zI t)) e1
      · simp only [zcd] at c4
        refine tt_op rfl rfl ?_
        refine tt_ireturn rfl rfl (by rfl) (Nat.le_of_ble_eq_true rfl) (Nat.le_of_ble_eq_true rfl) ?_
        exact ⟨rfl, fun j _ => rfl, Or.inr (Or.inr (Or.inl ⟨hw, hnh, by omega, rfl, H0⟩))⟩
    | succ j ih =>
      intro k hk hno
      have bk := hb k (by omega)
      obtain ⟨⟨v1, v2⟩, ⟨v3, v4⟩, v5, v6⟩ := bk
      have nxt : P k ≠ (x, y, z) → xT xmX6_point (100, 0, 0, 0, 0) 84 [some (.ref 64), some (zI x), some (zI y), some (zI z), some (zI k)] [] n (mdH h m P bu tb fl co fa fb fs fr nn lv a fat w cm cX cY cZ cD su sv tu im rk ba go) (fun r n' h' => n' = n ∧ (∀ j, j < 64 → h' j = (mdH h m P bu tb fl co fa fb fs fr nn lv a fat w cm cX cY cZ cD su sv tu im rk ba go) j) ∧ ((¬ (zwi x 20 ∧ zwi y 20 ∧ zwi z 20) ∧ r = some (zI (-2)) ∧ mHp h' m P cm cX cY cZ cD) ∨ ((zwi x 20 ∧ zwi y 20 ∧ zwi z 20) ∧ hasP P m (x, y, z) ∧ r = some (zI (-3)) ∧ mHp h' m P cm cX cY cZ cD) ∨ ((zwi x 20 ∧ zwi y 20 ∧ zwi z 20) ∧ ¬ hasP P m (x, y, z) ∧ m = 14 ∧ r = some (zI (-4)) ∧ mHp h' m P cm cX cY cZ cD) ∨ ((zwi x 20 ∧ zwi y 20 ∧ zwi z 20) ∧ ¬ hasP P m (x, y, z) ∧ m < 14 ∧ r = some (zI m) ∧ mHp h' (m + 1) (vup P m (x, y, z)) (-1) cX cY cZ cD))) := by
        intro hne
        refine z_iinc rfl rfl rfl ?_
        refine tt_goto rfl ?_
        refine ih (k + 1) (by omega) (fun i hi => ?_)
        by_cases e : i = k
        · subst e; exact hne
        · exact hno i (by omega)
      refine tt_op rfl rfl ?_
      refine tt_op rfl rfl ?_
      refine tt_get rfl md64 (by rfl) ?_
      refine z_icmp rfl (by first | assumption | (unfold R3; omega)) (by first | assumption | (unfold R3; omega)) (fun c => absurd c (by simp only [zcd] <;> omega)) (fun c => ?_)
      refine tt_op rfl rfl ?_
      refine tt_get rfl md64 (by rfl) ?_
      refine tt_op rfl rfl ?_
      refine z_iald rfl md65 rfl (by omega) (by decide) ?_
      refine tt_op rfl rfl ?_
      refine z_icmp rfl (by first | assumption | (unfold R3; omega)) (by first | assumption | (unfold R3; omega)) (fun d1 => ?_) (fun d1 => ?_)
      · simp only [zcd] at d1
        exact nxt (fun e => d1 (by rw [e]))
      simp only [zcd] at d1
      refine tt_op rfl rfl ?_
      refine tt_get rfl md64 (by rfl) ?_
      refine tt_op rfl rfl ?_
      refine z_iald rfl md66 rfl (by omega) (by decide) ?_
      refine tt_op rfl rfl ?_
      refine z_icmp rfl (by first | assumption | (unfold R3; omega)) (by first | assumption | (unfold R3; omega)) (fun d2 => ?_) (fun d2 => ?_)
      · simp only [zcd] at d2
        exact nxt (fun e => d2 (by rw [e]))
      simp only [zcd] at d2
      refine tt_op rfl rfl ?_
      refine tt_get rfl md64 (by rfl) ?_
      refine tt_op rfl rfl ?_
      refine z_iald rfl md67 rfl (by omega) (by decide) ?_
      refine tt_op rfl rfl ?_
      refine z_icmp rfl (by first | assumption | (unfold R3; omega)) (by first | assumption | (unfold R3; omega)) (fun d3 => ?_) (fun d3 => ?_)
      · simp only [zcd] at d3
        exact nxt (fun e => d3 (by rw [e]))
      simp only [zcd] at d3
      refine tt_op rfl rfl ?_
      refine tt_ireturn rfl rfl (by rfl) (Nat.le_of_ble_eq_true rfl) (Nat.le_of_ble_eq_true rfl) ?_
      exact ⟨rfl, fun j _ => rfl, Or.inr (Or.inl ⟨hw, ⟨k, by omega, v3ext (show (P k).1 = x by omega) (show (P k).2.1 = y by omega) (show (P k).2.2 = z by omega)⟩, rfl, H0⟩)⟩
  exact loop m 0 (by omega) (fun i hi => by omega)
end M6
