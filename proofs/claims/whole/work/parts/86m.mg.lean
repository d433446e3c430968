/-! The reference: order, regular -/
theorem sy_pow {P : Nat → V3} {m : Nat} {g : Nat → Nat} (h : sy P m g) : ∀ k, sy P m (fun p => itr g p k)
  | 0 => sy_id P m
  | k + 1 => sy_comp h (sy_pow h k)
/-- a symmetry's order is no more than 48 -/
theorem ord_48 {P : Nat → V3} {m CB : Nat} (hm : m ≤ 14) (hb : ∀ j, j < m → vbd 20 (P j)) (hD : Dis P m) (hs : Sol P m) (hC : ∀ k, CB.testBit k = true ↔ isCor P m k) {g : Nat → Nat} (hg : sy P m g) : pdR CB g 14 0 1 ≤ 48 := by
  obtain ⟨o1, o2, o3⟩ := ord_spec hm hD hC hg
  refine sy_cap hm hb hD hs (im := fun i p => itr g p i) (fun i _ => sy_pow hg i) (fun i j hi hj e => ?_)
  have key : ∀ i j, i < j → j < pdR CB g 14 0 1 → ¬ ∀ p, isCor P m p → itr g p i = itr g p j := by
    intro i j hij hj e
    refine o3 (j - i) (by omega) (by omega) (fun p hp => ?_)
    have a : itr g p j = itr g (itr g p (j - i)) i := by rw [← itr_add, show j - i + i = j by omega]
    have b := e p hp
    rw [a] at b
    exact (sy_inj hD (sy_pow hg i) hp ((sy_pow hg (j - i)).1 p hp) b).symm
  rcases Nat.lt_trichotomy i j with c | c | c
  · exact absurd e (key i j c hj)
  · exact c
  · exact absurd (fun p hp => (e p hp).symm) (key j i c hi)
/-- a face's corners, as the model's bits say them -/
theorem and_co_bits {P : Nat → V3} {m fa co : Nat} {fb : Nat → Nat} {nn : Nat → V3} {lv : Nat → Int} (h : mAll P m fa fb nn lv) (hco : ∀ k, co.testBit k = true ↔ isCor P m k) {f : Nat} (hf : f < fa) (k : Nat) : (fb f &&& co).testBit k = true ↔ fA P m (nn f) (lv f) k ∧ isCor P m k := by
  rw [Nat.testBit_and, Bool.and_eq_true, hco, (h.2.1 f hf).2]
section MG
variable {h : xHp} {m : Nat} {P : Nat → V3} {bu tb fl co fa : Nat} {fb fs fr : Nat → Nat} {nn : Nat → V3} {lv : Nat → Int} {a : V3} {fat : Nat → Nat} {w : Int × V3} {cm : Int} {cX cY cZ cD su sv : Nat → Int} {tu : Nat} {im : Nat → Int} {rk ba : Nat → Nat} {go : Nat → Int}
variable {n : Nat} {hh : xHp}
set_option maxRecDepth 10000 in
set_option maxHeartbeats 1000000 in
theorem m_order (H : mHp hh m P cm cX cY cZ cD) {N : Nat} {imc : Nat → Nat → Nat} (hL : 0 < (blF P m).1 → SyL P m N imc ∧ ∀ i j, i < j → j < N → lxl (isCor P m) (imc i) (imc j)) (x : Int) (hx : R3 x) (v : Value) (hv3 : ¬ 0 < (blF P m).1 → v = zI (-3)) (hv1 : 0 < (blF P m).1 → ¬ (0 ≤ x ∧ x < N) → v = zI (-1)) (hv : 0 < (blF P m).1 → (0 ≤ x ∧ x < N) → v = zI (pdR (hCB P m) (imc x.toNat) 14 0 1)) : xCall xmX6_order 100 0 0 [.ref 64, zI x] n hh (mPo hh m P cm cX cY cZ cD n v) := by
  obtain ⟨fs, hq⟩ := H.at
  refine xCall.of xgX6_order rfl ?_
  refine tt_op rfl rfl ?_
  refine tt_callV (M' := xmX6_noSolid) rfl rfl rfl hq rfl (m_noSolid H) ?_
  rintro res n' h' ⟨rfl, h64, ⟨hF, rfl, hM⟩ | ⟨hF, rfl, hM⟩⟩
  · refine z_if rfl (by first | assumption | (unfold R3; omega)) (fun c => absurd c (by simp only [zcd] <;> omega)) (fun c => ?_)
    refine tt_op rfl rfl ?_
    refine tt_ireturn rfl rfl (by rfl) (Nat.le_of_ble_eq_true rfl) (Nat.le_of_ble_eq_true rfl) ?_
    rw [hv3 hF]
    exact ⟨rfl, h64, hM, rfl⟩
  obtain ⟨h, tb, fl, co, fa, fb, fs, fr, nn, lv, a, fat, w, su, sv, tu, im, rk, ba, go, rfl, hI, hS⟩ := hM
  obtain ⟨_, ⟨hm, hb, hD⟩, hs, hA, hco, hbd, hmt, hrn⟩ := SF_u hS
  have hb' : ∀ j, j < m → vbd 20 (P j) := fun j hj => hb j (by omega)
  have hC := hCB_spec hm hb' hD hs
  obtain ⟨hL1, hL2⟩ := hL hF
  refine z_if rfl (by first | assumption | (unfold R3; omega)) (fun c => ?_) (fun c => absurd (by simp only [zcd] <;> omega) c)
  refine tt_op rfl rfl ?_
  refine tt_op rfl rfl ?_
  refine tt_callV (M' := xmX6_noTurn) rfl rfl rfl md64 rfl (m_noTurn hS hI.2.2.2.1 (hI.2.2.2.2.2 rfl) x hx) ?_
  rintro res n' h' ⟨rfl, a', tu', im', rk', ba', go', hT', rfl, hres⟩
  obtain ⟨e, hrk⟩ := tOk_rank hT' hL1 hL2
  have hgood : mHp (mdH h m P (1) (1) fl co fa fb fs fr nn lv (a') fat w cm cX cY cZ cD su sv (tu') (im') (rk') (ba') (go')) m P cm cX cY cZ cD := ⟨h, 1, 1, fl, co, fa, fb, fs, fr, nn, lv, a', fat, w, su, sv, tu', im', rk', ba', go', rfl, mIn_T hI hT'⟩
  have h64' : ∀ j, j < 64 → (mdH h m P (1) (1) fl co fa fb fs fr nn lv (a') fat w cm cX cY cZ cD su sv (tu') (im') (rk') (ba') (go')) j = hh j := fun j hj => by rw [← h64 j hj, md_lo hj, md_lo hj]
  rcases hres with ⟨hin, rfl⟩ | ⟨hout, rfl⟩
  rotate_left
  · refine z_if rfl (by first | assumption | (unfold R3; omega)) (fun c => absurd c (by simp only [zcd] <;> omega)) (fun c => ?_)
    refine tt_op rfl rfl ?_
    refine tt_ireturn rfl rfl (by rfl) (Nat.le_of_ble_eq_true rfl) (Nat.le_of_ble_eq_true rfl) ?_
    rw [hv1 hF (fun e2 => hout ⟨e2.1, by have := e2.2; omega⟩)]
    exact ⟨rfl, h64', hgood, rfl⟩
  have hv' := hv hF ⟨hin.1, by omega⟩
  obtain ⟨i, rfl⟩ : ∃ i : Nat, x = i := ⟨x.toNat, by omega⟩
  rw [Int.toNat_natCast] at hv'
  obtain ⟨k1, k2⟩ := hrk i (by omega)
  have h48 := hT'.2.2.2.1
  have hsy := hL1.1 i (by omega)
  obtain ⟨o1, o2, o3⟩ := ord_spec hm hD hC hsy
  have o48 := ord_48 hm hb' hD hs hC hsy
  generalize hTT : pdR (hCB P m) (imc i) 14 0 1 = T at *
  generalize hg : imc i = g at *
  refine z_if rfl (by first | assumption | (unfold R3; omega)) (fun c => ?_) (fun c => absurd (by simp only [zcd] <;> omega) c)
  refine tt_op rfl rfl ?_
  refine tt_op rfl rfl ?_
  refine tt_get rfl md64 (by rfl) ?_
  refine tt_op rfl rfl ?_
  refine z_iald rfl md83 rfl (by omega) (by decide) ?_
  refine z_imul rfl ?_
  refine tt_op rfl rfl ?_
  refine tt_op rfl rfl ?_
  refine tt_op rfl rfl ?_
  refine tt_op rfl rfl ?_
  refine tt_op rfl rfl ?_
  have main : ∀ (j s : Nat) (l5 l6 l7 : Option Value), s + j = T → xT xmX6_order (100, 0, 0, 0, 0) 35 [some (.ref 64), some (zI i), some (zI (14 * (rk' i : Int))), some (zI s), some (zI (if s = T then 1 else 0)), l5, l6, l7] [] n' (mdH h m P (1) (1) fl co fa fb fs fr nn lv (a') fat w cm cX cY cZ cD su sv (tu') (im') (rk') (ba') (go')) (mPo hh m P cm cX cY cZ cD n' v) := by
    intro j
    induction j with
    | zero =>
      intro s l5 l6 l7 hst
      have : s = T := by omega
      subst this
      rw [if_pos rfl]
      refine tt_op rfl rfl ?_
      refine z_if rfl (by first | assumption | (unfold R3; omega)) (fun c => ?_) (fun c => absurd (by simp only [zcd] <;> omega) c)
      refine tt_op rfl rfl ?_
      refine tt_ireturn rfl rfl (by rfl) (Nat.le_of_ble_eq_true rfl) (Nat.le_of_ble_eq_true rfl) ?_
      rw [hv']
      exact ⟨rfl, h64', hgood, rfl⟩
    | succ j ih =>
      intro s l5 l6 l7 hst
      rw [if_neg (by omega)]
      refine tt_op rfl rfl ?_
      refine z_if rfl (by first | assumption | (unfold R3; omega)) (fun c => absurd c (by simp only [zcd] <;> omega)) (fun c => ?_)
      refine z_iinc rfl rfl rfl ?_
      refine tt_op rfl rfl ?_
      refine tt_op rfl rfl ?_
      refine tt_op rfl rfl ?_
      refine tt_op rfl rfl ?_
      have rows : ∀ (j p : Nat) (B : Int) (l6 l7 : Option Value), p + j = m → (B = 0 ∨ B = 1) → (B = 1 ↔ ∀ p', p' < p → isCor P m p' → itr g p' (s + 1) = p') → xT xmX6_order (100, 0, 0, 0, 0) 49 [some (.ref 64), some (zI i), some (zI (14 * (rk' i : Int))), some (zI ((s + 1 : Nat) : Int)), some (zI B), some (zI p), l6, l7] [] n' (mdH h m P (1) (1) fl co fa fb fs fr nn lv (a') fat w cm cX cY cZ cD su sv (tu') (im') (rk') (ba') (go')) (mPo hh m P cm cX cY cZ cD n' v) := by
        intro j
        induction j with
        | zero =>
          intro p B l6 l7 hp hB hB2
          have : p = m := by omega
          subst this
          refine tt_op rfl rfl ?_
          refine tt_op rfl rfl ?_
          refine tt_get rfl md64 (by rfl) ?_
          refine z_icmp rfl (by first | assumption | (unfold R3; omega)) (by first | assumption | (unfold R3; omega)) (fun c => ?_) (fun c => absurd (by simp only [zcd] <;> omega) c)
          refine tt_goto rfl ?_
          have eB : B = if s + 1 = T then 1 else 0 := by
            by_cases e1 : s + 1 = T
            · rw [if_pos e1]
              exact hB2.2 (fun p' _ cp => by rw [e1]; exact o2 p' cp)
            · rw [if_neg e1]
              rcases hB with h0 | h1
              · exact h0
              · exact absurd (fun p' cp => hB2.1 h1 p' cp.1 cp) (o3 (s + 1) (by omega) (by omega))
          rw [eB]
          exact ih (s + 1) _ _ _ (by omega)
        | succ j ihp =>
          intro p B l6 l7 hp hB hB2
          have p14 : p < 14 := by omega
          -- behind the inner round
          have after : ∀ (q : Nat) (l7 : Option Value), q < 14 → (isCor P m p → q = itr g p (s + 1)) → (¬ isCor P m p → q = p) → xT xmX6_order (100, 0, 0, 0, 0) 97 [some (.ref 64), some (zI i), some (zI (14 * (rk' i : Int))), some (zI ((s + 1 : Nat) : Int)), some (zI B), some (zI p), some (zI q), l7] [] n' (mdH h m P (1) (1) fl co fa fb fs fr nn lv (a') fat w cm cX cY cZ cD su sv (tu') (im') (rk') (ba') (go')) (mPo hh m P cm cX cY cZ cD n' v) := by
            intro q l7 q14 hq1 hq2
            have nxt : ∀ (B' : Int) (l7 : Option Value), (B' = 0 ∨ B' = 1) → (B' = 1 ↔ B = 1 ∧ q = p) → xT xmX6_order (100, 0, 0, 0, 0) 114 [some (.ref 64), some (zI i), some (zI (14 * (rk' i : Int))), some (zI ((s + 1 : Nat) : Int)), some (zI B), some (zI p), some (zI q), l7] [zI B'] n' (mdH h m P (1) (1) fl co fa fb fs fr nn lv (a') fat w cm cX cY cZ cD su sv (tu') (im') (rk') (ba') (go')) (mPo hh m P cm cX cY cZ cD n' v) := by
              intro B' l7 hb1 hb2
              refine tt_op rfl rfl ?_
              refine z_iinc rfl rfl rfl ?_
              refine tt_goto rfl ?_
              refine ihp (p + 1) B' _ _ (by omega) hb1 ?_
              rw [hb2, hB2]
              constructor
              · rintro ⟨e1, e2⟩ p' hp' cp'
                by_cases ep : p' = p
                · subst ep; rw [← hq1 cp']; exact e2
                · exact e1 p' (by omega) cp'
              · intro e1
                refine ⟨fun p' hp' cp' => e1 p' (by omega) cp', ?_⟩
                by_cases cp : isCor P m p
                · rw [hq1 cp]; exact e1 p (by omega) cp
                · exact hq2 cp
            refine tt_op rfl rfl ?_
            rcases hB with h0 | h1
            · subst h0
              refine z_if rfl (by first | assumption | (unfold R3; omega)) (fun c => ?_) (fun c => absurd (by simp only [zcd] <;> omega) c)
              refine tt_op rfl rfl ?_
              exact nxt 0 _ (Or.inl rfl) (by omega)
            · subst h1
              refine z_if rfl (by first | assumption | (unfold R3; omega)) (fun c => absurd c (by simp only [zcd] <;> omega)) (fun c => ?_)
              refine tt_op rfl rfl ?_
              refine tt_op rfl rfl ?_
              refine z_icmp rfl (by first | assumption | (unfold R3; omega)) (by first | assumption | (unfold R3; omega)) (fun c2 => ?_) (fun c2 => ?_)
              · simp only [zcd] at c2
                refine tt_op rfl rfl ?_
                exact nxt 0 _ (Or.inl rfl) (by omega)
              · simp only [zcd] at c2
                refine tt_op rfl rfl ?_
                refine tt_goto rfl ?_
                exact nxt 1 _ (Or.inr rfl) (by omega)
          refine tt_op rfl rfl ?_
          refine tt_op rfl rfl ?_
          refine tt_get rfl md64 (by rfl) ?_
          refine z_icmp rfl (by first | assumption | (unfold R3; omega)) (by first | assumption | (unfold R3; omega)) (fun c => absurd c (by simp only [zcd] <;> omega)) (fun c => ?_)
          refine tt_op rfl rfl ?_
          refine tt_op rfl rfl ?_
          refine tt_op rfl rfl ?_
          refine tt_op rfl rfl ?_
          by_cases cp : isCor P m p
          · have cit : ∀ k, isCor P m (itr g p k) := fun k => (sy_pow hsy k).1 p cp
            have kl : ∀ (j k : Nat), k + j = s + 1 → xT xmX6_order (100, 0, 0, 0, 0) 65 [some (.ref 64), some (zI i), some (zI (14 * (rk' i : Int))), some (zI ((s + 1 : Nat) : Int)), some (zI B), some (zI p), some (zI (itr g p k)), some (zI k)] [] n' (mdH h m P (1) (1) fl co fa fb fs fr nn lv (a') fat w cm cX cY cZ cD su sv (tu') (im') (rk') (ba') (go')) (mPo hh m P cm cX cY cZ cD n' v) := by
              intro j
              induction j with
              | zero =>
                intro k hk
                have : k = s + 1 := by omega
                subst this
                refine tt_op rfl rfl ?_
                refine tt_op rfl rfl ?_
                refine z_icmp rfl (by first | assumption | (unfold R3; omega)) (by first | assumption | (unfold R3; omega)) (fun c => ?_) (fun c => absurd (by simp only [zcd] <;> omega) c)
                exact after _ _ (by have := (cit (s + 1)).1; omega) (fun _ => rfl) (fun e2 => absurd cp e2)
              | succ j ihk =>
                intro k hk
                have ck := cit k
                have ck1 := ck.1
                have kq := k2 _ ck
                refine tt_op rfl rfl ?_
                refine tt_op rfl rfl ?_
                refine z_icmp rfl (by first | assumption | (unfold R3; omega)) (by first | assumption | (unfold R3; omega)) (fun c => absurd c (by simp only [zcd] <;> omega)) (fun c => ?_)
                refine tt_op rfl rfl ?_
                refine tt_op rfl rfl ?_
                refine tt_pV rfl rfl rfl md64 rfl (m_isC hS p14 (zI 1) (fun _ => rfl) (fun e2 => absurd cp e2)) ?_
                refine z_if rfl (by first | assumption | (unfold R3; omega)) (fun c => absurd c (by simp only [zcd] <;> omega)) (fun c => ?_)
                refine tt_op rfl rfl ?_
                refine tt_get rfl md64 (by rfl) ?_
                refine tt_op rfl rfl ?_
                refine tt_op rfl rfl ?_
                refine z_iadd rfl ?_
                refine z_iald (j := 14 * rk' i + itr g p k) rfl md82 (by omega) (by omega) (by decide) ?_
                rw [kq]
                refine tt_op rfl rfl ?_
                refine z_iinc rfl rfl rfl ?_
                refine tt_goto rfl ?_
                exact ihk (k + 1) (by omega)
            exact kl (s + 1) 0 (by omega)
          · refine tt_op rfl rfl ?_
            refine tt_op rfl rfl ?_
            refine z_icmp rfl (by first | assumption | (unfold R3; omega)) (by first | assumption | (unfold R3; omega)) (fun c => absurd c (by simp only [zcd] <;> omega)) (fun c => ?_)
            refine tt_op rfl rfl ?_
            refine tt_op rfl rfl ?_
            refine tt_pV rfl rfl rfl md64 rfl (m_isC hS p14 (zI 0) (fun e2 => absurd e2 cp) (fun _ => rfl)) ?_
            refine z_if rfl (by first | assumption | (unfold R3; omega)) (fun c => ?_) (fun c => absurd (by simp only [zcd] <;> omega) c)
            exact after p _ p14 (fun e2 => absurd e2 cp) (fun _ => rfl)
      have t := rows m 0 1 l6 l7 (by omega) (Or.inr rfl) ⟨fun _ p' hp' => by omega, fun _ => rfl⟩
      exact t
  have t := main T 0 none none none (by omega)
  rw [if_neg (by omega)] at t
  exact t
set_option maxRecDepth 10000 in
theorem m_imageBits (hm : m ≤ 14) {i S : Nat} (hi : i < 48) (hS : S < 16384) (hb : ∀ p, p < m → S.testBit p = true → 0 ≤ im (14 * i + p) ∧ im (14 * i + p) < 14) : ∃ B : Nat, B < 16384 ∧ (∀ x : Nat, B.testBit x = true ↔ ∃ p, p < m ∧ S.testBit p = true ∧ im (14 * i + p) = (x : Int)) ∧ xPure xmX6_imageBits 1 [.ref 64, zI i, zI S] n (mdH h m P bu tb fl co fa fb fs fr nn lv a fat w cm cX cY cZ cD su sv tu im rk ba go) (zI B) := by
  have loop : ∀ (j k B : Nat), k + j = m → B < 16384 → (∀ x : Nat, B.testBit x = true ↔ ∃ p, p < k ∧ S.testBit p = true ∧ im (14 * i + p) = (x : Int)) → ∃ B' : Nat, B' < 16384 ∧ (∀ x : Nat, B'.testBit x = true ↔ ∃ p, p < m ∧ S.testBit p = true ∧ im (14 * i + p) = (x : Int)) ∧ xT xmX6_imageBits (1, 0, 0, 0, 0) 5 [some (.ref 64), some (zI i), some (zI S), some (zI B), some (zI k)] [] n (mdH h m P bu tb fl co fa fb fs fr nn lv a fat w cm cX cY cZ cD su sv tu im rk ba go) (fun r n' h' => r = some (zI B') ∧ n' = n ∧ h' = (mdH h m P bu tb fl co fa fb fs fr nn lv a fat w cm cX cY cZ cD su sv tu im rk ba go)) := by
    intro j
    induction j with
    | zero =>
      intro k B hk hB hb2
      have : k = m := by omega
      subst this
      refine ⟨B, hB, hb2, ?_⟩
      refine tt_op rfl rfl ?_
      refine tt_op rfl rfl ?_
      refine tt_get rfl md64 (by rfl) ?_
      refine z_icmp rfl (by first | assumption | (unfold R3; omega)) (by first | assumption | (unfold R3; omega)) (fun c => ?_) (fun c => absurd (by simp only [zcd] <;> omega) c)
      refine tt_op rfl rfl ?_
      refine tt_ireturn rfl rfl (by rfl) (Nat.le_of_ble_eq_true rfl) (Nat.le_of_ble_eq_true rfl) ?_
      exact ⟨rfl, rfl, rfl⟩
    | succ j ih =>
      intro k B hk hB hb2
      by_cases hS2 : S.testBit k = true
      · obtain ⟨c1, c2⟩ := hb k (by omega) hS2
        obtain ⟨y, hy⟩ : ∃ y : Nat, im (14 * i + k) = (y : Int) := ⟨(im (14 * i + k)).toNat, by omega⟩
        have y14 : y < 14 := by omega
        obtain ⟨B', e1, e2, e3⟩ := ih (k + 1) (B ||| 2 ^ y) (by omega) (bits_or hB (bits_pow y14)) (fun x => by
          rw [tb_or, Bool.or_eq_true, hb2, decide_eq_true_eq]
          constructor
          · rintro (⟨p, p1, p2, p3⟩ | e)
            · exact ⟨p, by omega, p2, p3⟩
            · exact ⟨k, by omega, hS2, by rw [hy, e]⟩
          · rintro ⟨p, p1, p2, p3⟩
            by_cases e : p = k
            · subst e; exact Or.inr (by omega)
            · exact Or.inl ⟨p, by omega, p2, p3⟩)
        refine ⟨B', e1, e2, ?_⟩
        refine tt_op rfl rfl ?_
        refine tt_op rfl rfl ?_
        refine tt_get rfl md64 (by rfl) ?_
        refine z_icmp rfl (by first | assumption | (unfold R3; omega)) (by first | assumption | (unfold R3; omega)) (fun c => absurd c (by simp only [zcd] <;> omega)) (fun c => ?_)
        refine tt_op rfl rfl ?_
        refine tt_op rfl rfl ?_
        refine tt_op rfl rfl ?_
        refine z_tb rfl rfl rfl (by omega) (by omega) ?_
        refine tt_op rfl rfl ?_
        rw [if_pos hS2]
        refine z_icmp rfl (by first | assumption | (unfold R3; omega)) (by first | assumption | (unfold R3; omega)) (fun c => absurd c (by simp only [zcd] <;> omega)) (fun c => ?_)
        refine tt_op rfl rfl ?_
        refine tt_op rfl rfl ?_
        refine tt_get rfl md64 (by rfl) ?_
        refine tt_op rfl rfl ?_
        refine tt_op rfl rfl ?_
        refine z_imul rfl ?_
        refine tt_op rfl rfl ?_
        refine z_iadd rfl ?_
        refine z_iald (j := 14 * i + k) rfl md82 (by omega) (by omega) (by decide) ?_
        rw [hy]
        refine z_shl1 rfl (by omega) ?_
        refine tt_goto rfl ?_
        refine z_ior rfl ?_
        refine tt_op rfl rfl ?_
        refine z_iinc rfl rfl rfl ?_
        refine tt_goto rfl ?_
        exact e3
      · obtain ⟨B', e1, e2, e3⟩ := ih (k + 1) B (by omega) hB (fun x => by
          rw [hb2]
          constructor
          · rintro ⟨p, p1, p2⟩; exact ⟨p, by omega, p2⟩
          · rintro ⟨p, p1, p2⟩
            refine ⟨p, ?_, p2⟩
            have : p ≠ k := by rintro rfl; exact hS2 p2.1
            omega)
        refine ⟨B', e1, e2, ?_⟩
        refine tt_op rfl rfl ?_
        refine tt_op rfl rfl ?_
        refine tt_get rfl md64 (by rfl) ?_
        refine z_icmp rfl (by first | assumption | (unfold R3; omega)) (by first | assumption | (unfold R3; omega)) (fun c => absurd c (by simp only [zcd] <;> omega)) (fun c => ?_)
        refine tt_op rfl rfl ?_
        refine tt_op rfl rfl ?_
        refine tt_op rfl rfl ?_
        refine z_tb rfl rfl rfl (by omega) (by omega) ?_
        refine tt_op rfl rfl ?_
        rw [if_neg hS2]
        refine z_icmp rfl (by first | assumption | (unfold R3; omega)) (by first | assumption | (unfold R3; omega)) (fun c => ?_) (fun c => absurd (by simp only [zcd] <;> omega) c)
        refine tt_op rfl rfl ?_
        refine z_ior rfl ?_
        refine tt_op rfl rfl ?_
        refine z_iinc rfl rfl rfl ?_
        refine tt_goto rfl ?_
        rw [Nat.or_zero]
        exact e3
  obtain ⟨B, b1, b2, b3⟩ := loop m 0 0 (by omega) (by omega) (fun x => by simp)
  refine ⟨B, b1, b2, ?_⟩
  refine xCall.of xgX6_imageBits rfl ?_
  refine tt_op rfl rfl ?_
  refine tt_op rfl rfl ?_
  refine tt_op rfl rfl ?_
  refine tt_op rfl rfl ?_
  exact b3
/-- some turn takes the first flag there -/
def TK (P : Nat → V3) (m tu : Nat) (im : Nat → Int) (n0 : V3) (l0 : Int) (p q : Nat) (n1 : V3) (l1 : Int) (v w : Nat) : Prop := ∃ i, i < tu ∧ (im (14 * i + p)).toNat = v ∧ (im (14 * i + q)).toNat = w ∧ tkF P m (fun r => (im (14 * i + r)).toNat) n0 l0 n1 l1
set_option maxRecDepth 10000 in
set_option maxHeartbeats 1000000 in
theorem m_isTaken (hS : SF P m (fl, co, fa, fb, fs, fr, nn, lv, fat)) (hT : tOk P m tu im rk ba) {f g p q v w' : Nat} (hf : f < fa) (hg : g < fa) (cp : isCor P m p) (cq : isCor P m q) (cv : isCor P m v) (cw : isCor P m w') (r : Value) (h1 : TK P m tu im (nn f) (lv f) p q (nn g) (lv g) v w' → r = zI 1) (h0 : ¬ TK P m tu im (nn f) (lv f) p q (nn g) (lv g) v w' → r = zI 0) : xPure xmX6_isTaken 2 [.ref 64, zI f, zI p, zI q, zI g, zI v, zI w'] n (mdH h m P bu tb fl co fa fb fs fr nn lv a fat w cm cX cY cZ cD su sv tu im rk ba go) r := by
  obtain ⟨_, ⟨hm, hb, hD⟩, hs, hA, hco, hbd, hmt, hrn⟩ := SF_u hS
  have h24 : fa ≤ 24 := hA.1
  have p14 : p < 14 := by have := cp.1; omega
  have q14 : q < 14 := by have := cq.1; omega
  have v14 : v < 14 := by have := cv.1; omega
  have w14 : w' < 14 := by have := cw.1; omega
  have h48 := hT.2.2.2.1
  have bf := and_lt (w := co) (hbd.1 f (by omega))
  have bg := and_lt (w := co) (hbd.1 g (by omega))
  have cof := fun k => and_co_bits hA hco.2 hf k
  have cog := fun k => and_co_bits hA hco.2 hg k
  refine xCall.of xgX6_isTaken rfl ?_
  refine tt_op rfl rfl ?_
  refine tt_op rfl rfl ?_
  have loop : ∀ (j i : Nat), i + j = tu → (∀ i', i' < i → ¬ ((im (14 * i' + p)).toNat = v ∧ (im (14 * i' + q)).toNat = w' ∧ tkF P m (fun r => (im (14 * i' + r)).toNat) (nn f) (lv f) (nn g) (lv g))) → xT xmX6_isTaken (2, 0, 0, 0, 0) 3 [some (.ref 64), some (zI f), some (zI p), some (zI q), some (zI g), some (zI v), some (zI w'), some (zI i)] [] n (mdH h m P bu tb fl co fa fb fs fr nn lv a fat w cm cX cY cZ cD su sv tu im rk ba go) (fun r' n' h' => r' = some r ∧ n' = n ∧ h' = (mdH h m P bu tb fl co fa fb fs fr nn lv a fat w cm cX cY cZ cD su sv tu im rk ba go)) := by
    intro j
    induction j with
    | zero =>
      intro i hi hno
      have : i = tu := by omega
      subst this
      refine tt_op rfl rfl ?_
      refine tt_op rfl rfl ?_
      refine tt_get rfl md64 (by rfl) ?_
      refine z_icmp rfl (by first | assumption | (unfold R3; omega)) (by first | assumption | (unfold R3; omega)) (fun c => ?_) (fun c => absurd (by simp only [zcd] <;> omega) c)
      refine tt_op rfl rfl ?_
      refine tt_ireturn rfl rfl (by rfl) (Nat.le_of_ble_eq_true rfl) (Nat.le_of_ble_eq_true rfl) ?_
      rw [h0 (fun ⟨i', e1, e2⟩ => hno i' e1 e2)]
      exact ⟨rfl, rfl, rfl⟩
    | succ j ih =>
      intro i hi hno
      obtain ⟨t1, t2, t3⟩ := tOk_row hT (show i < tu by omega)
      have bp := t2 p cp
      have bq := t2 q cq
      have nxt : ¬ ((im (14 * i + p)).toNat = v ∧ (im (14 * i + q)).toNat = w' ∧ tkF P m (fun r => (im (14 * i + r)).toNat) (nn f) (lv f) (nn g) (lv g)) → xT xmX6_isTaken (2, 0, 0, 0, 0) 80 [some (.ref 64), some (zI f), some (zI p), some (zI q), some (zI g), some (zI v), some (zI w'), some (zI i)] [] n (mdH h m P bu tb fl co fa fb fs fr nn lv a fat w cm cX cY cZ cD su sv tu im rk ba go) (fun r' n' h' => r' = some r ∧ n' = n ∧ h' = (mdH h m P bu tb fl co fa fb fs fr nn lv a fat w cm cX cY cZ cD su sv tu im rk ba go)) := by
        intro hn
        refine z_iinc rfl rfl rfl ?_
        refine tt_goto rfl ?_
        refine ih (i + 1) (by omega) (fun i' hi' => ?_)
        by_cases e : i' = i
        · subst e; exact hn
        · exact hno i' (by omega)
      refine tt_op rfl rfl ?_
      refine tt_op rfl rfl ?_
      refine tt_get rfl md64 (by rfl) ?_
      refine z_icmp rfl (by first | assumption | (unfold R3; omega)) (by first | assumption | (unfold R3; omega)) (fun c => absurd c (by simp only [zcd] <;> omega)) (fun c => ?_)
      refine tt_op rfl rfl ?_
      refine tt_get rfl md64 (by rfl) ?_
      refine tt_op rfl rfl ?_
      refine tt_op rfl rfl ?_
      refine z_imul rfl ?_
      refine tt_op rfl rfl ?_
      refine z_iadd rfl ?_
      refine z_iald (j := 14 * i + p) rfl md82 (by omega) (by omega) (by decide) ?_
      refine tt_op rfl rfl ?_
      refine z_icmp rfl (by first | assumption | (unfold R3; omega)) (by first | assumption | (unfold R3; omega)) (fun c1 => ?_) (fun c1 => ?_)
      · simp only [zcd] at c1
        exact nxt (fun e => by have := e.1; omega)
      simp only [zcd] at c1
      refine tt_op rfl rfl ?_
      refine tt_get rfl md64 (by rfl) ?_
      refine tt_op rfl rfl ?_
      refine tt_op rfl rfl ?_
      refine z_imul rfl ?_
      refine tt_op rfl rfl ?_
      refine z_iadd rfl ?_
      refine z_iald (j := 14 * i + q) rfl md82 (by omega) (by omega) (by decide) ?_
      refine tt_op rfl rfl ?_
      refine z_icmp rfl (by first | assumption | (unfold R3; omega)) (by first | assumption | (unfold R3; omega)) (fun c2 => ?_) (fun c2 => ?_)
      · simp only [zcd] at c2
        exact nxt (fun e => by have := e.2.1; omega)
      simp only [zcd] at c2
      obtain ⟨B, hB1, hB2, hB3⟩ := m_imageBits (h := h) (P := P) (bu := bu) (tb := tb) (fl := fl) (co := co) (fa := fa) (fb := fb) (fs := fs) (fr := fr) (nn := nn) (lv := lv) (a := a) (fat := fat) (w := w) (cm := cm) (cX := cX) (cY := cY) (cZ := cZ) (cD := cD) (su := su) (sv := sv) (tu := tu) (im := im) (rk := rk) (ba := ba) (go := go) (n := n) hm (i := i) (S := fb f &&& co) (by omega) bf (fun x hx hb2 => by have := t2 x ((cof x).1 hb2).2; omega)
      refine tt_op rfl rfl ?_
      refine tt_op rfl rfl ?_
      refine tt_op rfl rfl ?_
      refine tt_get rfl md64 (by rfl) ?_
      refine tt_op rfl rfl ?_
      refine z_iald rfl md68 rfl (by omega) (by decide) ?_
      refine tt_op rfl rfl ?_
      refine tt_get rfl md64 (by rfl) ?_
      refine z_iand rfl ?_
      refine tt_pV rfl rfl rfl md64 rfl hB3 ?_
      refine tt_op rfl rfl ?_
      refine tt_get rfl md64 (by rfl) ?_
      refine tt_op rfl rfl ?_
      refine z_iald rfl md68 rfl (by omega) (by decide) ?_
      refine tt_op rfl rfl ?_
      refine tt_get rfl md64 (by rfl) ?_
      refine z_iand rfl ?_
      have key : B = fb g &&& co ↔ tkF P m (fun r => (im (14 * i + r)).toNat) (nn f) (lv f) (nn g) (lv g) := by
        constructor
        · intro e x hx
          have bx := t2 x hx
          constructor
          · intro hxg
            have : B.testBit (im (14 * i + x)).toNat = true := by rw [e]; exact (cog _).2 ⟨hxg, t1.1 x hx⟩
            obtain ⟨x', _, x2, x3⟩ := (hB2 _).1 this
            have cx' := ((cof x').1 x2).2
            have bx' := t2 x' cx'
            have ee : x' = x := sy_inj hD t1 cx' hx (by show (im (14 * i + x')).toNat = (im (14 * i + x)).toNat; omega)
            rw [← ee]; exact ((cof x').1 x2).1
          · intro hxf
            have : B.testBit (im (14 * i + x)).toNat = true := (hB2 _).2 ⟨x, hx.1, (cof x).2 ⟨hxf, hx⟩, by omega⟩
            rw [e] at this
            exact ((cog _).1 this).1
        · intro e
          refine bits_eq (fun x => ?_)
          rw [hB2, cog]
          constructor
          · rintro ⟨x', _, x2, x3⟩
            obtain ⟨f1, f2⟩ := (cof x').1 x2
            have a1 : fA P m (nn g) (lv g) (im (14 * i + x')).toNat := (e x' f2).2 f1
            have a2 := t1.1 x' f2
            have ee : (im (14 * i + x')).toNat = x := by omega
            rw [ee] at a1
            have a2' : isCor P m (im (14 * i + x')).toNat := a2
            rw [ee] at a2'
            exact ⟨a1, a2'⟩
          · rintro ⟨x1, x2⟩
            obtain ⟨x', hx', ex⟩ := sy_surj hD t1 x2
            have ex' : (im (14 * i + x')).toNat = x := ex
            have bx' := t2 x' hx'
            have a1 := (e x' hx').1 (by show fA P m (nn g) (lv g) (im (14 * i + x')).toNat; rw [ex']; exact x1)
            exact ⟨x', hx'.1, (cof x').2 ⟨a1, hx'⟩, by omega⟩
      refine z_icmp rfl (by first | assumption | (unfold R3; omega)) (by first | assumption | (unfold R3; omega)) (fun c3 => ?_) (fun c3 => ?_)
      · simp only [zcd] at c3
        have hne : B ≠ fb g &&& co := by omega
        exact nxt (fun e => hne (key.2 e.2.2))
      · simp only [zcd] at c3
        have he : B = fb g &&& co := by omega
        refine tt_op rfl rfl ?_
        refine tt_ireturn rfl rfl (by rfl) (Nat.le_of_ble_eq_true rfl) (Nat.le_of_ble_eq_true rfl) ?_
        rw [h1 ⟨i, by omega, by omega, by omega, key.1 he⟩]
        exact ⟨rfl, rfl, rfl⟩
  exact loop tu 0 (by omega) (fun i' hi' => by omega)
set_option maxRecDepth 10000 in
set_option maxHeartbeats 1000000 in
theorem m_regular (H : mHp hh m P cm cX cY cZ cD) {N : Nat} {imc : Nat → Nat → Nat} (hL : 0 < (blF P m).1 → SyL P m N imc ∧ ∀ i j, i < j → j < N → lxl (isCor P m) (imc i) (imc j)) : xCall xmX6_regular 100 0 0 [.ref 64] n hh (mPo hh m P cm cX cY cZ cD n (zI (if 0 < (blF P m).1 then (if N = 4 * hE P m then 1 else 0) else -3))) := by
  obtain ⟨fs, hq⟩ := H.at
  refine xCall.of xgX6_regular rfl ?_
  refine tt_op rfl rfl ?_
  refine tt_callV (M' := xmX6_noSolid) rfl rfl rfl hq rfl (m_noSolid H) ?_
  rintro res n' h' ⟨rfl, h64, ⟨hF, rfl, hM⟩ | ⟨hF, rfl, hM⟩⟩
  · rw [if_neg hF]
    refine z_if rfl (by first | assumption | (unfold R3; omega)) (fun c => absurd c (by simp only [zcd] <;> omega)) (fun c => ?_)
    refine tt_op rfl rfl ?_
    refine tt_ireturn rfl rfl (by rfl) (Nat.le_of_ble_eq_true rfl) (Nat.le_of_ble_eq_true rfl) ?_
    exact ⟨rfl, h64, hM, rfl⟩
  rw [if_pos hF]
  obtain ⟨h, tb, fl, co, fa, fb, fs, fr, nn, lv, a, fat, w, su, sv, tu, im, rk, ba, go, rfl, hI, hS⟩ := hM
  obtain ⟨_, ⟨hm, hb, hD⟩, hs, hA, hco, hbd, hmt, hrn⟩ := SF_u hS
  have hb' : ∀ j, j < m → vbd 20 (P j) := fun j hj => hb j (by omega)
  obtain ⟨hL1, hL2⟩ := hL hF
  have h24 : fa ≤ 24 := hA.1
  have hfa : fa = (blF P m).1 := hmt.1
  refine z_if rfl (by first | assumption | (unfold R3; omega)) (fun c => ?_) (fun c => absurd (by simp only [zcd] <;> omega) c)
  refine tt_op rfl rfl ?_
  refine tt_callV (M' := xmX6_buildTurns) rfl rfl rfl md64 rfl (m_buildTurns hS hI.2.2.2.1 (hI.2.2.2.2.2 rfl)) ?_
  rintro res n' h' ⟨rfl, rfl, a', tu', im', rk', ba', go', hT', rfl⟩
  obtain ⟨e, hrk⟩ := tOk_rank hT' hL1 hL2
  have hgood : mHp (mdH h m P (1) (1) fl co fa fb fs fr nn lv (a') fat w cm cX cY cZ cD su sv (tu') (im') (rk') (ba') (go')) m P cm cX cY cZ cD := ⟨h, 1, 1, fl, co, fa, fb, fs, fr, nn, lv, a', fat, w, su, sv, tu', im', rk', ba', go', rfl, mIn_T hI hT'⟩
  have h64' : ∀ j, j < 64 → (mdH h m P (1) (1) fl co fa fb fs fr nn lv (a') fat w cm cX cY cZ cD su sv (tu') (im') (rk') (ba') (go')) j = hh j := fun j hj => by rw [← h64 j hj, md_lo hj, md_lo hj]
  have hFm := fun f (hf : f < fa) => (hA.2.1 f hf).1
  have cor : ∀ f, f < fa → ∀ k, k < fs f → isCor P m (fr (14 * f + k)) := fun f hf k hk => cor_of hD (hFm f hf) ((hrn f hf).2.1 k hk)
  have l3 : ∀ f, f < fa → 3 ≤ fs f ∧ fs f ≤ 14 := fun f hf => (hrn f hf).1
  have l30 := l3 0 (by omega)
  have c0 := cor 0 (by omega) 0 (by omega)
  have c1 := cor 0 (by omega) 1 (by omega)
  rw [show 14 * 0 + 0 = 0 from rfl] at c0
  rw [show 14 * 0 + 1 = 1 from rfl] at c1
  have fl0 : flg P m (nn 0) (lv 0) (fr 0) (fr 1) := by
    left
    have a1 := (hrn 0 (by omega)).2.1 0 (by omega)
    have a2 := (hrn 0 (by omega)).2.2.2.2.2.1 0 (by omega)
    exact ⟨a1, a2⟩
  have reg := reg_spec hm hb' hD hT'.2.2.1 (hFm 0 (by omega)) fl0
  rw [e] at reg
  -- what is checked
  have nxi : ∀ f, f < fa → ∀ k, k < fs f → nxt P (fA P m (nn f) (lv f)) (nn f) (fr (14 * f + k)) (fr (14 * f + (k + 1) % fs f)) ∧ (k + 1) % fs f < fs f := by
    intro f hf k hk
    obtain ⟨_, _, _, _, _, nx, nl⟩ := hrn f hf
    by_cases e1 : k + 1 < fs f
    · rw [Nat.mod_eq_of_lt e1]; exact ⟨nx k e1, e1⟩
    · have ek : k + 1 = fs f := by omega
      have : k = fs f - 1 := by omega
      rw [ek, Nat.mod_self]
      refine ⟨?_, by omega⟩
      rw [this]; exact nl
  have yes : (∀ f, f < fa → ∀ k, k < fs f → TK P m tu' im' (nn 0) (lv 0) (fr 0) (fr 1) (nn f) (lv f) (fr (14 * f + k)) (fr (14 * f + (k + 1) % fs f)) ∧ TK P m tu' im' (nn 0) (lv 0) (fr 0) (fr 1) (nn f) (lv f) (fr (14 * f + (k + 1) % fs f)) (fr (14 * f + k))) → N = 4 * hE P m := by
    intro hall
    rw [hE_spec hm hb' hD]
    refine reg.2 (fun n1 l1 v1 w1 hF1 hfl => ?_)
    obtain ⟨f, f1, rfl, rfl⟩ := hA.2.2.2 n1 l1 hF1
    have find : ∀ v1 w1, expo P (fA P m (nn f) (lv f)) (nn f) v1 → nxt P (fA P m (nn f) (lv f)) (nn f) v1 w1 → ∃ k, k < fs f ∧ fr (14 * f + k) = v1 ∧ fr (14 * f + (k + 1) % fs f) = w1 := by
      intro v1 w1 hx hn
      obtain ⟨k, k1, k2⟩ := (hrn f f1).2.2.2.1 v1 hx
      refine ⟨k, k1, k2, ?_⟩
      have a1 := (nxi f f1 k k1).1
      have k2' : fr (14 * f + k) = v1 := k2
      rw [k2'] at a1
      exact F_sam hD hF1 a1.1 hn.1 (nxt_det (gcd3_ne hF1.1) hx a1 hn)
    rcases hfl with ⟨hx, hn⟩ | ⟨hx, hn⟩
    · obtain ⟨k, k1, k2, k3⟩ := find v1 w1 hx hn
      obtain ⟨i, i1, i2, i3, i4⟩ := (hall f f1 k k1).1
      rw [k2] at i2; rw [k3] at i3
      exact ⟨i, by omega, i2, i3, i4⟩
    · obtain ⟨k, k1, k2, k3⟩ := find w1 v1 hx hn
      obtain ⟨i, i1, i2, i3, i4⟩ := (hall f f1 k k1).2
      rw [k3] at i2; rw [k2] at i3
      exact ⟨i, by omega, i2, i3, i4⟩
  have not : ∀ f, f < fa → ∀ k, k < fs f → ¬ (TK P m tu' im' (nn 0) (lv 0) (fr 0) (fr 1) (nn f) (lv f) (fr (14 * f + k)) (fr (14 * f + (k + 1) % fs f)) ∧ TK P m tu' im' (nn 0) (lv 0) (fr 0) (fr 1) (nn f) (lv f) (fr (14 * f + (k + 1) % fs f)) (fr (14 * f + k))) → N ≠ 4 * hE P m := by
    intro f hf k hk hno hN
    rw [hE_spec hm hb' hD] at hN
    have hall := reg.1 hN
    have hx := (hrn f hf).2.1 k hk
    have hn := (nxi f hf k hk).1
    apply hno
    obtain ⟨i, i1, i2, i3, i4⟩ := hall _ _ (fr (14 * f + k)) (fr (14 * f + (k + 1) % fs f)) (hFm f hf) (Or.inl ⟨hx, hn⟩)
    obtain ⟨j, j1, j2, j3, j4⟩ := hall _ _ (fr (14 * f + (k + 1) % fs f)) (fr (14 * f + k)) (hFm f hf) (Or.inr ⟨hx, hn⟩)
    exact ⟨⟨i, by omega, i2, i3, i4⟩, ⟨j, by omega, j2, j3, j4⟩⟩
  refine tt_op rfl rfl ?_
  refine tt_get rfl md64 (by rfl) ?_
  refine tt_op rfl rfl ?_
  refine z_iald (j := 0) rfl md70 rfl (by decide) (by decide) ?_
  refine tt_op rfl rfl ?_
  refine tt_op rfl rfl ?_
  refine tt_get rfl md64 (by rfl) ?_
  refine tt_op rfl rfl ?_
  refine z_iald (j := 1) rfl md70 rfl (by decide) (by decide) ?_
  refine tt_op rfl rfl ?_
  refine tt_op rfl rfl ?_
  refine tt_op rfl rfl ?_
  have gloop : ∀ (j g : Nat) (l4 l5 l6 : Option Value), g + j = fa → (∀ f, f < g → ∀ k, k < fs f → TK P m tu' im' (nn 0) (lv 0) (fr 0) (fr 1) (nn f) (lv f) (fr (14 * f + k)) (fr (14 * f + (k + 1) % fs f)) ∧ TK P m tu' im' (nn 0) (lv 0) (fr 0) (fr 1) (nn f) (lv f) (fr (14 * f + (k + 1) % fs f)) (fr (14 * f + k))) → xT xmX6_regular (100, 0, 0, 0, 0) 30 [some (.ref 64), some (zI (fr 0)), some (zI (fr 1)), some (zI g), l4, l5, l6] [] n' (mdH h m P (1) (1) fl co fa fb fs fr nn lv (a') fat w cm cX cY cZ cD su sv (tu') (im') (rk') (ba') (go')) (mPo hh m P cm cX cY cZ cD n' (zI (if N = 4 * hE P m then 1 else 0))) := by
    intro j
    induction j with
    | zero =>
      intro g l4 l5 l6 hg hok
      have : g = fa := by omega
      subst this
      refine tt_op rfl rfl ?_
      refine tt_op rfl rfl ?_
      refine tt_get rfl md64 (by rfl) ?_
      refine z_icmp rfl (by first | assumption | (unfold R3; omega)) (by first | assumption | (unfold R3; omega)) (fun c => ?_) (fun c => absurd (by simp only [zcd] <;> omega) c)
      refine tt_op rfl rfl ?_
      refine tt_ireturn rfl rfl (by rfl) (Nat.le_of_ble_eq_true rfl) (Nat.le_of_ble_eq_true rfl) ?_
      rw [if_pos (yes hok)]
      exact ⟨rfl, h64', hgood, rfl⟩
    | succ j ihg =>
      intro g l4 l5 l6 hg hok
      have lg := l3 g (by omega)
      refine tt_op rfl rfl ?_
      refine tt_op rfl rfl ?_
      refine tt_get rfl md64 (by rfl) ?_
      refine z_icmp rfl (by first | assumption | (unfold R3; omega)) (by first | assumption | (unfold R3; omega)) (fun c => absurd c (by simp only [zcd] <;> omega)) (fun c => ?_)
      refine tt_op rfl rfl ?_
      refine tt_op rfl rfl ?_
      have kloop : ∀ (j k : Nat) (l5 l6 : Option Value), k + j = fs g → (∀ k', k' < k → TK P m tu' im' (nn 0) (lv 0) (fr 0) (fr 1) (nn g) (lv g) (fr (14 * g + k')) (fr (14 * g + (k' + 1) % fs g)) ∧ TK P m tu' im' (nn 0) (lv 0) (fr 0) (fr 1) (nn g) (lv g) (fr (14 * g + (k' + 1) % fs g)) (fr (14 * g + k'))) → xT xmX6_regular (100, 0, 0, 0, 0) 41 [some (.ref 64), some (zI (fr 0)), some (zI (fr 1)), some (zI g), some (zI k), l5, l6] [] n' (mdH h m P (1) (1) fl co fa fb fs fr nn lv (a') fat w cm cX cY cZ cD su sv (tu') (im') (rk') (ba') (go')) (mPo hh m P cm cX cY cZ cD n' (zI (if N = 4 * hE P m then 1 else 0))) := by
        intro j
        induction j with
        | zero =>
          intro k l5 l6 hk hokk
          refine tt_op rfl rfl ?_
          refine tt_op rfl rfl ?_
          refine tt_get rfl md64 (by rfl) ?_
          refine tt_op rfl rfl ?_
          refine z_iald rfl md69 rfl (by omega) (by decide) ?_
          refine z_icmp rfl (by first | assumption | (unfold R3; omega)) (by first | assumption | (unfold R3; omega)) (fun c => ?_) (fun c => absurd (by simp only [zcd] <;> omega) c)
          refine z_iinc rfl rfl rfl ?_
          refine tt_goto rfl ?_
          refine ihg (g + 1) _ _ _ (by omega) (fun f hf => ?_)
          by_cases e1 : f = g
          · subst e1; exact fun k' hk' => hokk k' (by omega)
          · exact hok f (by omega)
        | succ j ihk =>
          intro k l5 l6 hk hokk
          have cv := cor g (by omega) k (by omega)
          have km := (nxi g (by omega) k (by omega)).2
          have cw := cor g (by omega) _ km
          have fal : ¬ (TK P m tu' im' (nn 0) (lv 0) (fr 0) (fr 1) (nn g) (lv g) (fr (14 * g + k)) (fr (14 * g + (k + 1) % fs g)) ∧ TK P m tu' im' (nn 0) (lv 0) (fr 0) (fr 1) (nn g) (lv g) (fr (14 * g + (k + 1) % fs g)) (fr (14 * g + k))) → ∀ ls, xT xmX6_regular (100, 0, 0, 0, 0) 119 ls [] n' (mdH h m P (1) (1) fl co fa fb fs fr nn lv (a') fat w cm cX cY cZ cD su sv (tu') (im') (rk') (ba') (go')) (mPo hh m P cm cX cY cZ cD n' (zI (if N = 4 * hE P m then 1 else 0))) := by
            intro hn ls
            refine tt_op rfl rfl ?_
            refine tt_ireturn rfl rfl (by rfl) (Nat.le_of_ble_eq_true rfl) (Nat.le_of_ble_eq_true rfl) ?_
            rw [if_neg (not g (by omega) k (by omega) hn)]
            exact ⟨rfl, h64', hgood, rfl⟩
          refine tt_op rfl rfl ?_
          refine tt_op rfl rfl ?_
          refine tt_get rfl md64 (by rfl) ?_
          refine tt_op rfl rfl ?_
          refine z_iald rfl md69 rfl (by omega) (by decide) ?_
          refine z_icmp rfl (by first | assumption | (unfold R3; omega)) (by first | assumption | (unfold R3; omega)) (fun c => absurd c (by simp only [zcd] <;> omega)) (fun c => ?_)
          refine tt_op rfl rfl ?_
          refine tt_get rfl md64 (by rfl) ?_
          refine tt_op rfl rfl ?_
          refine tt_op rfl rfl ?_
          refine z_imul rfl ?_
          refine tt_op rfl rfl ?_
          refine z_iadd rfl ?_
          refine z_iald (j := 14 * g + k) rfl md70 (by omega) (by omega) (by decide) ?_
          refine tt_op rfl rfl ?_
          refine tt_op rfl rfl ?_
          refine tt_get rfl md64 (by rfl) ?_
          refine tt_op rfl rfl ?_
          refine tt_op rfl rfl ?_
          refine z_imul rfl ?_
          refine tt_op rfl rfl ?_
          refine tt_op rfl rfl ?_
          refine z_iadd rfl ?_
          refine tt_op rfl rfl ?_
          refine tt_get rfl md64 (by rfl) ?_
          refine tt_op rfl rfl ?_
          refine z_iald rfl md69 rfl (by omega) (by decide) ?_
          have ek : (k : Int) + 1 = ((k + 1 : Nat) : Int) := by omega
          rw [ek]
          refine z_irem rfl (by omega) (by omega) (by omega) ?_
          refine z_iadd rfl ?_
          refine z_iald (j := 14 * g + (k + 1) % fs g) rfl md70 (by omega) (by omega) (by decide) ?_
          refine tt_op rfl rfl ?_
          refine tt_op rfl rfl ?_
          refine tt_op rfl rfl ?_
          refine tt_op rfl rfl ?_
          refine tt_op rfl rfl ?_
          refine tt_op rfl rfl ?_
          refine tt_op rfl rfl ?_
          refine tt_op rfl rfl ?_
          by_cases tk1 : TK P m tu' im' (nn 0) (lv 0) (fr 0) (fr 1) (nn g) (lv g) (fr (14 * g + k)) (fr (14 * g + (k + 1) % fs g))
          rotate_left
          · refine tt_pV rfl rfl rfl md64 rfl (m_isTaken hS hT' (f := 0) (g := g) (by omega) (by omega) c0 c1 cv cw (zI 0) (fun e2 => absurd e2 tk1) (fun _ => rfl)) ?_
            refine z_if rfl (by first | assumption | (unfold R3; omega)) (fun c => ?_) (fun c => absurd (by simp only [zcd] <;> omega) c)
            exact fal (fun e2 => tk1 e2.1) _
          refine tt_pV rfl rfl rfl md64 rfl (m_isTaken hS hT' (f := 0) (g := g) (by omega) (by omega) c0 c1 cv cw (zI 1) (fun _ => rfl) (fun e2 => absurd tk1 e2)) ?_
          refine z_if rfl (by first | assumption | (unfold R3; omega)) (fun c => absurd c (by simp only [zcd] <;> omega)) (fun c => ?_)
          refine tt_op rfl rfl ?_
          refine tt_op rfl rfl ?_
          refine tt_op rfl rfl ?_
          refine tt_op rfl rfl ?_
          refine tt_op rfl rfl ?_
          refine tt_op rfl rfl ?_
          refine tt_op rfl rfl ?_
          by_cases tk2 : TK P m tu' im' (nn 0) (lv 0) (fr 0) (fr 1) (nn g) (lv g) (fr (14 * g + (k + 1) % fs g)) (fr (14 * g + k))
          rotate_left
          · refine tt_pV rfl rfl rfl md64 rfl (m_isTaken hS hT' (f := 0) (g := g) (by omega) (by omega) c0 c1 cw cv (zI 0) (fun e2 => absurd e2 tk2) (fun _ => rfl)) ?_
            refine z_if rfl (by first | assumption | (unfold R3; omega)) (fun c => absurd c (by simp only [zcd] <;> omega)) (fun c => ?_)
            exact fal (fun e2 => tk2 e2.2) _
          refine tt_pV rfl rfl rfl md64 rfl (m_isTaken hS hT' (f := 0) (g := g) (by omega) (by omega) c0 c1 cw cv (zI 1) (fun _ => rfl) (fun e2 => absurd tk2 e2)) ?_
          refine z_if rfl (by first | assumption | (unfold R3; omega)) (fun c => ?_) (fun c => absurd (by simp only [zcd] <;> omega) c)
          refine z_iinc rfl rfl rfl ?_
          refine tt_goto rfl ?_
          refine ihk (k + 1) _ _ (by omega) (fun k' hk' => ?_)
          by_cases e1 : k' = k
          · subst e1; exact ⟨tk1, tk2⟩
          · exact hokk k' (by omega)
      exact kloop (fs g) 0 _ _ (by omega) (fun k' hk' => by omega)
  exact gloop fa 0 none none none (by omega) (fun f hf => by omega)
end MG
