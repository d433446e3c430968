/-! The reference: whole build, and what then holds -/
theorem rnd_cg {P : Nat → V3} {A : Nat → Prop} {d : V3} {R R' : Nat → Nat} {L : Nat} (h : rnd P A d R L) (e : ∀ k, k < L → R k = R' k) : rnd P A d R' L := by
  obtain ⟨⟨l3, l14⟩, ex, inj, cov, lst, nx, nl⟩ := h
  refine ⟨⟨l3, l14⟩, fun k hk => by rw [← e k hk]; exact ex k hk, fun i j hi hj x => inj i j hi hj (by rw [e i hi, e j hj]; exact x), fun v hv => ?_, fun v hv => by rw [← e 0 (by omega)]; exact lst v hv, fun k hk => by rw [← e k (by omega), ← e (k + 1) hk]; exact nx k hk, by rw [← e (L - 1) (by omega), ← e 0 (by omega)]; exact nl⟩
  obtain ⟨k, hk, x⟩ := cov v hv
  exact ⟨k, hk, by rw [← e k hk]; exact x⟩
/-- what the model knows of a solid -/
def SF (P : Nat → V3) (m : Nat) (t : B9) : Prop :=
  t.1 = 0 ∧ (m ≤ 14 ∧ pbd P ∧ Dis P m) ∧ Sol P m ∧ mAll P m t.2.2.1 t.2.2.2.1 t.2.2.2.2.2.2.1 t.2.2.2.2.2.2.2.1 ∧ (t.2.1 < 16384 ∧ ∀ k, t.2.1.testBit k = true ↔ isCor P m k) ∧ ((∀ j, j < 24 → t.2.2.2.1 j < 16384) ∧ (∀ j, j < 24 → vbd 3200 (t.2.2.2.2.2.2.1 j)) ∧ (∀ j, j < 24 → -1000000 ≤ t.2.2.2.2.2.2.2.1 j ∧ t.2.2.2.2.2.2.2.1 j ≤ 1000000) ∧ ∀ j, j < 336 → t.2.2.2.2.2.1 j < 14) ∧ mtc P m t ∧ ∀ f, f < t.2.2.1 → rnd P (fA P m (t.2.2.2.2.2.2.1 f) (t.2.2.2.2.2.2.2.1 f)) (t.2.2.2.2.2.2.1 f) (fun k => t.2.2.2.2.2.1 (14 * f + k)) (t.2.2.2.2.1 f)
theorem SF_of {P : Nat → V3} {m : Nat} (hm : m ≤ 14) (hb : pbd P) (hD : Dis P m) {t : B9} (h : mBt P m t) (h0 : t.1 = 0) : SF P m t := by
  have hb' : ∀ j, j < m → vbd 20 (P j) := fun j hj => hb j (by omega)
  have hmt := mtc_of hm hb' hD h h0
  obtain ⟨⟨fb, nn, lv, he⟩, g1, g2, g3, g4⟩ := h
  obtain ⟨ma, _, mc⟩ := mAll_of hm hb' hD he
  have hs := mc.1 h0
  obtain ⟨co, rows, _⟩ := g4 h0
  refine ⟨h0, ⟨hm, hb, hD⟩, hs, ma, ⟨by rw [co]; exact bts_lt _ m hm, fun k => by rw [co]; exact coF_spec hm hD hs ma k⟩, ⟨g1.2.1, g1.2.2.1, g1.2.2.2, g3⟩, hmt, fun f hf => ?_⟩
  obtain ⟨R, L, hR⟩ := F_rnd hm hD (ma.2.1 f hf).1
  have r1 := rows f hf
  rw [co] at r1
  obtain ⟨u1, u2⟩ := rowOk_uni (rowOk_of hD (ma.2.1 f hf).1 (and_co hm hD hs ma hf) hR) r1
  have u1' : L = t.2.2.2.2.1 f := u1
  rw [← u1']
  exact rnd_cg hR u2
section M4
variable {h : xHp} {m : Nat} {P : Nat → V3} {bu tb fl co fa : Nat} {fb fs fr : Nat → Nat} {nn : Nat → V3} {lv : Nat → Int} {a : V3} {fat : Nat → Nat} {w : Int × V3} {cm : Int} {cX cY cZ cD su sv : Nat → Int} {tu : Nat} {im : Nat → Int} {rk ba : Nat → Nat} {go : Nat → Int}
variable {n : Nat}
set_option maxRecDepth 10000 in
set_option maxHeartbeats 1000000 in
theorem m_build (hb : pbd P) (hm : m ≤ 14) (hC : mCap P m) (hR : mRows P m) (hfb : ∀ j, j < 24 → fb j < 16384) (hnn : ∀ j, j < 24 → vbd 3200 (nn j)) (hlv : ∀ j, j < 24 → -1000000 ≤ lv j ∧ lv j ≤ 1000000) (hfr : ∀ j, j < 336 → fr j < 14) : xCall xmX6_build 4 0 0 [.ref 64] n (mdH h m P (0) tb fl co fa fb fs fr nn lv a fat w cm cX cY cZ cD su sv tu im rk ba go) (fun res n' h' => res = none ∧ n' = n ∧ ∃ (t : B9) (a' : V3), mBt P m t ∧ h' = (mdH h m P (1) (0) (t.1) (t.2.1) (t.2.2.1) (t.2.2.2.1) (t.2.2.2.2.1) (t.2.2.2.2.2.1) (t.2.2.2.2.2.2.1) (t.2.2.2.2.2.2.2.1) (a') (t.2.2.2.2.2.2.2.2) w cm cX cY cZ cD su sv tu im rk ba go)) := by
  obtain ⟨J, J0, J1, J2⟩ := hC
  refine xCall.of xgX6_build rfl ?_
  refine tt_op rfl rfl ?_
  refine tt_get rfl md64 (by rfl) ?_
  refine z_if rfl (by first | assumption | (unfold R3; omega)) (fun c => ?_) (fun c => absurd (by simp only [zcd] <;> omega) c)
  refine tt_op rfl rfl ?_
  refine tt_op rfl rfl ?_
  refine md_pbu (x := 1) (Or.inr rfl) rfl (by decide) ?_
  refine tt_op rfl rfl ?_
  refine tt_op rfl rfl ?_
  refine md_ptb (x := 0) (Or.inl rfl) rfl (by decide) ?_
  refine tt_op rfl rfl ?_
  refine tt_op rfl rfl ?_
  refine md_pfl (x := 1) (Or.inr rfl) rfl (by decide) ?_
  refine tt_op rfl rfl ?_
  refine tt_op rfl rfl ?_
  refine md_pco (x := 0) rfl (by decide) ?_
  refine tt_op rfl rfl ?_
  refine tt_op rfl rfl ?_
  refine md_pfa (x := 0) rfl (by decide) ?_
  refine tt_op rfl rfl ?_
  refine tt_op rfl rfl ?_
  refine m_build_p J2 J1 hb hm _ m 0 (1, 0, fb, nn, lv) a none none (by omega) (J0 fb nn lv) ⟨Or.inr rfl, hfb, hnn, hlv⟩ (fun a' l2 l3 hJ hg => ?_)
  have hR' := hR fb nn lv
  have eS : mP P m m 0 (1, 0, fb, nn, lv) = mtF P m (1, 0, fb, nn, lv) := rfl
  rw [eS] at hJ hg ⊢
  generalize hS : mtF P m (1, 0, fb, nn, lv) = S at *
  have h24 := J1 S hJ
  refine tt_op rfl rfl ?_
  refine tt_get rfl md64 (by rfl) ?_
  rcases hg.1 with h0 | h1
  · rw [h0]
    refine z_if rfl (by first | assumption | (unfold R3; omega)) (fun c => ?_) (fun c => absurd (by simp only [zcd] <;> omega) c)
    refine tt_op rfl rfl ?_
    refine tt_op rfl rfl ?_
    refine m_build_co hm h24 hg.2.1 _ _ _ ?_ m 0 (by omega)
    refine tt_op rfl rfl ?_
    refine tt_op rfl rfl ?_
    refine m_build_lay hb hm h24 hg.2.1 hg.2.2.1 (hR' h0) _ _ _ (fun a2 fr2 fs2 hfr2 hrows => ?_) S.2.1 0 a' fr fs (by omega) hfr (fun g hg => by omega)
    refine tt_op rfl rfl ?_
    refine tt_op rfl rfl ?_
    refine m_build_at h24 hfr2 fat _ ?_ S.2.1 0 _ _ (by omega)
    refine ⟨rfl, rfl, (0, coF S.2.2.1 S.2.1 m, S.2.1, S.2.2.1, fs2, fr2, S.2.2.2.1, S.2.2.2.2, faR fr2 S.2.1 fat S.2.1), a2, ⟨⟨fb, nn, lv, ?_⟩, ?_, h24, hfr2, fun _ => ⟨rfl, hrows, fat, rfl⟩⟩, rfl⟩
    · rw [hS, ← h0]
    · rw [← h0]; exact hg
  · rw [h1]
    refine z_if rfl (by first | assumption | (unfold R3; omega)) (fun c => absurd c (by simp only [zcd] <;> omega)) (fun c => ?_)
    skip
    refine tt_return rfl rfl (Nat.le_of_ble_eq_true rfl) (Nat.le_of_ble_eq_true rfl) ?_
    refine ⟨rfl, rfl, (1, 0, S.2.1, S.2.2.1, fs, fr, S.2.2.2.1, S.2.2.2.2, fat), a', ⟨⟨fb, nn, lv, ?_⟩, ?_, h24, hfr, fun e => by cases e⟩, rfl⟩
    · rw [hS, ← h1]
    · rw [← h1]; exact hg
set_option maxRecDepth 10000 in
theorem m_built : xCall xmX6_build 4 0 0 [.ref 64] n (mdH h m P (1) tb fl co fa fb fs fr nn lv a fat w cm cX cY cZ cD su sv tu im rk ba go) (fun res n' h' => res = none ∧ n' = n ∧ h' = (mdH h m P (1) tb fl co fa fb fs fr nn lv a fat w cm cX cY cZ cD su sv tu im rk ba go)) := by
  refine xCall.of xgX6_build rfl ?_
  refine tt_op rfl rfl ?_
  refine tt_get rfl md64 (by rfl) ?_
  refine z_if rfl (by first | assumption | (unfold R3; omega)) (fun c => absurd c (by simp only [zcd] <;> omega)) (fun c => ?_)
  skip
  refine tt_return rfl rfl (Nat.le_of_ble_eq_true rfl) (Nat.le_of_ble_eq_true rfl) ?_
  exact ⟨rfl, rfl, rfl⟩
/-- the turns that are kept -/
def eaR (im : Nat → Int) (i j : Nat) : Nat → Nat → Bool
  | 0, _ => false
  | f + 1, p => if im (14 * i + p) ≠ im (14 * j + p) then decide (im (14 * i + p) < im (14 * j + p)) else eaR im i j f (p + 1)
def eaB (m : Nat) (im : Nat → Int) (i j : Nat) : Bool := eaR im i j m 0
def tOk (P : Nat → V3) (m tu : Nat) (im : Nat → Int) (rk ba : Nat → Nat) : Prop :=
  (∀ k, k < 4 → isCor P m (ba k)) ∧ bxs P (ba 0) (ba 1) (ba 2) (ba 3) ≠ 0 ∧ SyL P m tu (fun i p => (im (14 * i + p)).toNat) ∧ tu ≤ 48 ∧ (∀ i p, i < tu → isCor P m p → 0 ≤ im (14 * i + p) ∧ im (14 * i + p) < m) ∧ (∀ i p, i < tu → p < m → ¬ isCor P m p → im (14 * i + p) = -1) ∧ ∃ r, ∀ j, j < tu → rk j = rkR (eaB m im) tu r tu j
/-- what the model's cells hold -/
def mIn (P : Nat → V3) (m bu tb : Nat) (t : B9) (tu : Nat) (im : Nat → Int) (rk ba : Nat → Nat) : Prop :=
  (m ≤ 14 ∧ pbd P ∧ Dis P m) ∧ ((∀ j, j < 24 → t.2.2.2.1 j < 16384) ∧ (∀ j, j < 24 → vbd 3200 (t.2.2.2.2.2.2.1 j)) ∧ (∀ j, j < 24 → -1000000 ≤ t.2.2.2.2.2.2.2.1 j ∧ t.2.2.2.2.2.2.2.1 j ≤ 1000000) ∧ ∀ j, j < 336 → t.2.2.2.2.2.1 j < 14) ∧ (bu = 0 ∨ bu = 1) ∧ (tb = 0 ∨ tb = 1) ∧ (bu = 1 → mBt P m t) ∧ (bu = 1 → tb = 1 → tOk P m tu im rk ba)
def mHp (hh : xHp) (m : Nat) (P : Nat → V3) (cm : Int) (cX cY cZ cD : Nat → Int) : Prop :=
  ∃ (h : xHp) (bu tb fl co fa : Nat) (fb fs fr : Nat → Nat) (nn : Nat → V3) (lv : Nat → Int) (a : V3) (fat : Nat → Nat) (w : Int × V3) (su sv : Nat → Int) (tu : Nat) (im : Nat → Int) (rk ba : Nat → Nat) (go : Nat → Int), hh = (mdH h m P bu tb fl co fa fb fs fr nn lv a fat w cm cX cY cZ cD su sv tu im rk ba go) ∧ mIn P m bu tb (fl, co, fa, fb, fs, fr, nn, lv, fat) tu im rk ba
/-- with a solid that is built -/
def mSd (hh : xHp) (m : Nat) (P : Nat → V3) (cm : Int) (cX cY cZ cD : Nat → Int) : Prop :=
  ∃ (h : xHp) (tb fl co fa : Nat) (fb fs fr : Nat → Nat) (nn : Nat → V3) (lv : Nat → Int) (a : V3) (fat : Nat → Nat) (w : Int × V3) (su sv : Nat → Int) (tu : Nat) (im : Nat → Int) (rk ba : Nat → Nat) (go : Nat → Int), hh = (mdH h m P (1) tb fl co fa fb fs fr nn lv a fat w cm cX cY cZ cD su sv tu im rk ba go) ∧ mIn P m 1 tb (fl, co, fa, fb, fs, fr, nn, lv, fat) tu im rk ba ∧ SF P m (fl, co, fa, fb, fs, fr, nn, lv, fat)
theorem mSd.hp {hh : xHp} (h : mSd hh m P cm cX cY cZ cD) : mHp hh m P cm cX cY cZ cD := by
  obtain ⟨h, tb, fl, co, fa, fb, fs, fr, nn, lv, a, fat, w, su, sv, tu, im, rk, ba, go, e, i, _⟩ := h
  exact ⟨h, 1, tb, fl, co, fa, fb, fs, fr, nn, lv, a, fat, w, su, sv, tu, im, rk, ba, go, e, i⟩
set_option maxRecDepth 10000 in
theorem m_noSolid {hh : xHp} (H : mHp hh m P cm cX cY cZ cD) : xCall xmX6_noSolid 5 0 0 [.ref 64] n hh (fun res n' h' => n' = n ∧ (∀ j, j < 64 → h' j = hh j) ∧ ((¬ 0 < (blF P m).1 ∧ res = some (zI 1) ∧ mHp h' m P cm cX cY cZ cD) ∨ (0 < (blF P m).1 ∧ res = some (zI 0) ∧ mSd h' m P cm cX cY cZ cD))) := by
  obtain ⟨h, bu, tb, fl, co, fa, fb, fs, fr, nn, lv, a, fat, w, su, sv, tu, im, rk, ba, go, rfl, hI⟩ := H
  obtain ⟨⟨hm, hb, hD⟩, ⟨b1, b2, b3, b4⟩, hbu, htb, hB, hT⟩ := id hI
  have hb' : ∀ j, j < m → vbd 20 (P j) := fun j hj => hb j (by omega)
  have fin : ∀ (t : B9) (a' : V3) (tb' : Nat), mBt P m t → (tb' = 0 ∨ tb' = 1) → (tb' = 1 → tOk P m tu im rk ba) → xT xmX6_noSolid (5, 0, 0, 0, 0) 4 [some (.ref 64)] [] n (mdH h m P (1) (tb') (t.1) (t.2.1) (t.2.2.1) (t.2.2.2.1) (t.2.2.2.2.1) (t.2.2.2.2.2.1) (t.2.2.2.2.2.2.1) (t.2.2.2.2.2.2.2.1) (a') (t.2.2.2.2.2.2.2.2) w cm cX cY cZ cD su sv tu im rk ba go) (fun res n' h' => n' = n ∧ (∀ j, j < 64 → h' j = (mdH h m P bu tb fl co fa fb fs fr nn lv a fat w cm cX cY cZ cD su sv tu im rk ba go) j) ∧ ((¬ 0 < (blF P m).1 ∧ res = some (zI 1) ∧ mHp h' m P cm cX cY cZ cD) ∨ (0 < (blF P m).1 ∧ res = some (zI 0) ∧ mSd h' m P cm cX cY cZ cD))) := by
    intro t a' tb' ht htb' hT'
    obtain ⟨⟨fb0, nn0, lv0, he⟩, g1, g2, g3, g4⟩ := id ht
    obtain ⟨_, m01, ms⟩ := mAll_of hm hb' hD he
    have hIn : mIn P m 1 tb' t tu im rk ba := ⟨⟨hm, hb, hD⟩, ⟨g1.2.1, g1.2.2.1, g1.2.2.2, g3⟩, Or.inr rfl, htb', fun _ => ht, fun _ => hT'⟩
    refine tt_op rfl rfl ?_
    refine tt_get rfl md64 (by rfl) ?_
    rcases m01 with h0 | h1
    · have h0' : t.1 = 0 := h0
      rw [h0']
      refine tt_ireturn rfl rfl (by rfl) (Nat.le_of_ble_eq_true rfl) (Nat.le_of_ble_eq_true rfl) ?_
      refine ⟨rfl, fun j hj => by rw [md_lo hj, md_lo hj], Or.inr ⟨(blF_sol hm hb' hD).2 (ms.1 h0), rfl, h, tb', t.1, t.2.1, t.2.2.1, t.2.2.2.1, t.2.2.2.2.1, t.2.2.2.2.2.1, t.2.2.2.2.2.2.1, t.2.2.2.2.2.2.2.1, a', t.2.2.2.2.2.2.2.2, w, su, sv, tu, im, rk, ba, go, by rw [h0'], hIn, SF_of hm hb hD ht h0'⟩⟩
    · have h1' : t.1 = 1 := h1
      rw [h1']
      refine tt_ireturn rfl rfl (by rfl) (Nat.le_of_ble_eq_true rfl) (Nat.le_of_ble_eq_true rfl) ?_
      refine ⟨rfl, fun j hj => by rw [md_lo hj, md_lo hj], Or.inl ⟨fun hf => ?_, rfl, h, 1, tb', t.1, t.2.1, t.2.2.1, t.2.2.2.1, t.2.2.2.2.1, t.2.2.2.2.2.1, t.2.2.2.2.2.2.1, t.2.2.2.2.2.2.2.1, a', t.2.2.2.2.2.2.2.2, w, su, sv, tu, im, rk, ba, go, by rw [h1'], hIn⟩⟩
      have := ms.2 ((blF_sol hm hb' hD).1 hf)
      have this' : t.1 = 0 := this
      omega
  refine xCall.of xgX6_noSolid rfl ?_
  refine tt_op rfl rfl ?_
  rcases hbu with rfl | rfl
  · refine tt_callV (M' := xmX6_build) rfl rfl rfl md64 rfl (m_build hb hm (mCap_ok hm hb' hD) (mRows_ok hm hb' hD) b1 b2 b3 b4) ?_
    rintro res n' h' ⟨rfl, rfl, t, a', ht, rfl⟩
    exact fin t a' 0 ht (Or.inl rfl) (fun e => by cases e)
  · refine tt_callV (M' := xmX6_build) rfl rfl rfl md64 rfl m_built ?_
    rintro res n' h' ⟨rfl, rfl, rfl⟩
    exact fin (fl, co, fa, fb, fs, fr, nn, lv, fat) a tb (hB rfl) htb (hT rfl)
end M4
