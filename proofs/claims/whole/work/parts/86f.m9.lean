/-! The reference: what is far, ways -/
section M9
variable {h : xHp} {m : Nat} {P : Nat → V3} {bu tb fl co fa : Nat} {fb fs fr : Nat → Nat} {nn : Nat → V3} {lv : Nat → Int} {a : V3} {fat : Nat → Nat} {w : Int × V3} {cm : Int} {cX cY cZ cD su sv : Nat → Int} {tu : Nat} {im : Nat → Int} {rk ba : Nat → Nat} {go : Nat → Int}
variable {n : Nat} {hh : xHp}
set_option maxRecDepth 10000 in
set_option maxHeartbeats 1000000 in
theorem m_far (H : mHp hh m P cm cX cY cZ cD) (x y z wt : Int) (hx : R3 x) (hy : R3 y) (hz : R3 z) (hwt : R3 wt) (v : Value)
    (hv1 : 0 < (blF P m).1 ∧ isDir x y z ∧ wt = 0 → v = zJ (gtR P (hCB P m) (x, y, z) 14 0 (-1000000000000)))
    (hv2 : 0 < (blF P m).1 ∧ isDir x y z ∧ wt = 1 → v = zJ (caR P (hCB P m) (x, y, z) (gtR P (hCB P m) (x, y, z) 14 0 (-1000000000000)) 14 0 0))
    (hv0 : ¬ (0 < (blF P m).1 ∧ isDir x y z ∧ (wt = 0 ∨ wt = 1)) → v = zJ (-1000000000000)) : xCall xmX6_far 100 0 0 [.ref 64, zI x, zI y, zI z, zI wt] n hh (mPo hh m P cm cX cY cZ cD n v) := by
  obtain ⟨fs, hq⟩ := H.at
  have no : ¬ (0 < (blF P m).1 ∧ isDir x y z ∧ (wt = 0 ∨ wt = 1)) → ∀ ls h', (∀ j, j < 64 → h' j = hh j) → mHp h' m P cm cX cY cZ cD → xT xmX6_far (100, 0, 0, 0, 0) 26 ls [] n h' (mPo hh m P cm cX cY cZ cD n v) := by
    intro e ls h' h64 hM
    refine tt_op rfl rfl ?_
    refine tt_lreturn rfl rfl (Nat.le_of_ble_eq_true rfl) (Nat.le_of_ble_eq_true rfl) ?_
    rw [hv0 e]
    exact ⟨rfl, h64, hM, rfl⟩
  refine xCall.of xgX6_far rfl ?_
  refine tt_op rfl rfl ?_
  refine tt_callV (M' := xmX6_noSolid) rfl rfl rfl hq rfl (m_noSolid H) ?_
  rintro res n' h' ⟨rfl, h64, ⟨hF, rfl, hM⟩ | ⟨hF, rfl, hM⟩⟩
  · refine z_if rfl (by first | assumption | (unfold R3; omega)) (fun c => ?_) (fun c => absurd (by simp only [zcd] <;> omega) c)
    exact no (fun e => hF e.1) _ _ h64 hM
  have hM' := hM.hp
  obtain ⟨h, tb, fl, co, fa, fb, fs, fr, nn, lv, a, fat, w, su, sv, tu, im, rk, ba, go, rfl, hI, hS⟩ := hM
  obtain ⟨_, ⟨hm, hb, hD⟩, hs, hA, _, hbd, hmt, hrn⟩ := SF_u hS
  have hb' : ∀ j, j < m → vbd 20 (P j) := fun j hj => hb j (by omega)
  refine z_if rfl (by first | assumption | (unfold R3; omega)) (fun c => absurd c (by simp only [zcd] <;> omega)) (fun c => ?_)
  refine tt_op rfl rfl ?_
  refine tt_op rfl rfl ?_
  refine tt_op rfl rfl ?_
  by_cases hdir : isDir x y z
  rotate_left
  · refine tt_pS rfl rfl rfl rfl (m_isDir x y z hx hy hz (zI 0) (fun e => absurd e hdir) (fun _ => rfl) _ _) ?_
    refine z_if rfl (by first | assumption | (unfold R3; omega)) (fun c => ?_) (fun c => absurd (by simp only [zcd] <;> omega) c)
    exact no (fun e => hdir e.2.1) _ _ h64 hM'
  refine tt_pS rfl rfl rfl rfl (m_isDir x y z hx hy hz (zI 1) (fun _ => rfl) (fun e => absurd hdir e) _ _) ?_
  refine z_if rfl (by first | assumption | (unfold R3; omega)) (fun c => absurd c (by simp only [zcd] <;> omega)) (fun c => ?_)
  refine tt_op rfl rfl ?_
  refine tt_op rfl rfl ?_
  refine tt_op rfl rfl ?_
  refine tt_pS rfl rfl rfl rfl (m_in wt 0 1 hwt ⟨by decide, by decide⟩ ⟨by decide, by decide⟩ _ _) ?_
  by_cases c2 : 0 ≤ wt ∧ wt ≤ 1
  rotate_left
  · rw [if_neg c2]
    refine z_if rfl (by first | assumption | (unfold R3; omega)) (fun c => absurd c (by simp only [zcd] <;> omega)) (fun c => ?_)
    exact no (fun e => c2 (by have := e.2.2; omega)) _ _ h64 hM'
  rw [if_pos c2]
  refine z_if rfl (by first | assumption | (unfold R3; omega)) (fun c => ?_) (fun c => absurd (by simp only [zcd] <;> omega) c)
  refine tt_op rfl rfl ?_
  refine tt_op rfl rfl ?_
  refine tt_op rfl rfl ?_
  refine tt_op rfl rfl ?_
  refine tt_op rfl rfl ?_
  refine tt_op rfl rfl ?_
  have hC := hCB_spec hm hb' hD hs
  obtain ⟨_, zx, zy, zz⟩ := id hdir
  have hvb : ∀ p, p < 14 → -1200 ≤ dot (x, y, z) (P p) ∧ dot (x, y, z) (P p) ≤ 1200 := fun p hp => by
    have := dot_bd (u := (x, y, z)) (v := P p) (A := 20) (B := 20) ⟨zx, zy, zz⟩ (hb p hp); omega
  have loop : ∀ (j k : Nat) (M : Int) (B : Nat) (l9 l10 : Option Value), k + j = m → (∀ p, p < k → isCor P m p → dot (x, y, z) (P p) ≤ M) → (M = -1000000000000 ∨ ∃ p, p < k ∧ isCor P m p ∧ M = dot (x, y, z) (P p)) → -1000000000000 ≤ M → (∀ q, B.testBit q = true ↔ q < k ∧ isCor P m q ∧ dot (x, y, z) (P q) = M) → B < 16384 → xT xmX6_far (100, 0, 0, 0, 0) 41 [some (.ref 64), some (zI x), some (zI y), some (zI z), some (zI wt), some (zJ M), none, some (zI B), some (zI k), l9, l10] [] n' (mdH h m P (1) tb fl co fa fb fs fr nn lv a fat w cm cX cY cZ cD su sv tu im rk ba go) (mPo hh m P cm cX cY cZ cD n' v) := by
    intro j
    induction j with
    | zero =>
      intro k M B l9 l10 hk i1 i2 i3 i4 i5
      have : k = m := by omega
      subst this
      obtain ⟨g1, g2, g3⟩ := gtR_spec P (hCB P k) (x, y, z) 14 0 (-1000000000000)
      have eM : gtR P (hCB P k) (x, y, z) 14 0 (-1000000000000) = M := by
        have le1 : M ≤ gtR P (hCB P k) (x, y, z) 14 0 (-1000000000000) := by
          rcases i2 with e | ⟨p, p1, p2, p3⟩
          · omega
          · rw [p3]; exact g2 p (by omega) (by omega) ((hC p).2 p2)
        have le2 : gtR P (hCB P k) (x, y, z) 14 0 (-1000000000000) ≤ M := by
          rcases g3 with e | ⟨p, _, _, p2, p3⟩
          · omega
          · rw [p3]; have := (hC p).1 p2; exact i1 p this.1 this
        omega
      have eB : caR P (hCB P k) (x, y, z) M 14 0 0 = B := bits_eq (fun q => by
        rw [caR_spec, i4]
        constructor
        · rintro (e | ⟨_, _, e1, e2⟩)
          · simp at e
          · have := (hC q).1 e1; exact ⟨this.1, this, e2⟩
        · rintro ⟨e1, e2, e3⟩; exact Or.inr ⟨by omega, by omega, (hC q).2 e2, e3⟩)
      refine tt_op rfl rfl ?_
      refine tt_op rfl rfl ?_
      refine tt_get rfl md64 (by rfl) ?_
      refine z_icmp rfl (by first | assumption | (unfold R3; omega)) (by first | assumption | (unfold R3; omega)) (fun c => ?_) (fun c => absurd (by simp only [zcd] <;> omega) c)
      refine tt_op rfl rfl ?_
      by_cases e : wt = 0
      · subst e
        refine z_if rfl (by first | assumption | (unfold R3; omega)) (fun c => absurd c (by simp only [zcd] <;> omega)) (fun c => ?_)
        refine tt_op rfl rfl ?_
        refine tt_goto rfl ?_
        refine tt_lreturn rfl rfl (Nat.le_of_ble_eq_true rfl) (Nat.le_of_ble_eq_true rfl) ?_
        rw [hv1 ⟨hF, hdir, rfl⟩, eM]
        exact ⟨rfl, h64, hM', rfl⟩
      · refine z_if rfl (by first | assumption | (unfold R3; omega)) (fun c => ?_) (fun c => absurd (by simp only [zcd] <;> omega) c)
        refine tt_op rfl rfl ?_
        refine z_il rfl (by first | assumption | (unfold R3; omega)) ?_
        refine tt_lreturn rfl rfl (Nat.le_of_ble_eq_true rfl) (Nat.le_of_ble_eq_true rfl) ?_
        rw [hv2 ⟨hF, hdir, by omega⟩, eM, eB]
        exact ⟨rfl, h64, hM', rfl⟩
    | succ j ih =>
      intro k M B l9 l10 hk i1 i2 i3 i4 i5
      have hv := hvb k (by omega)
      have hM6 : R6 M := by
        rcases i2 with e | ⟨p, p1, p2, p3⟩
        · exact ⟨by omega, by omega⟩
        · have := hvb p (by omega); exact ⟨by omega, by omega⟩
      refine tt_op rfl rfl ?_
      refine tt_op rfl rfl ?_
      refine tt_get rfl md64 (by rfl) ?_
      refine z_icmp rfl (by first | assumption | (unfold R3; omega)) (by first | assumption | (unfold R3; omega)) (fun c => absurd c (by simp only [zcd] <;> omega)) (fun c => ?_)
      refine tt_op rfl rfl ?_
      refine tt_op rfl rfl ?_
      by_cases ck : isCor P m k
      rotate_left
      · refine tt_pV rfl rfl rfl md64 rfl (m_isC hS (show k < 14 by omega) (zI 0) (fun e => absurd e ck) (fun _ => rfl)) ?_
        refine z_if rfl (by first | assumption | (unfold R3; omega)) (fun c => ?_) (fun c => absurd (by simp only [zcd] <;> omega) c)
        refine z_iinc rfl rfl rfl ?_
        refine tt_goto rfl ?_
        refine ih (k + 1) M B _ _ (by omega) (fun p hp cp => i1 p (by
          have : p ≠ k := by rintro rfl; exact ck cp
          omega) cp) ?_ i3 (fun q => ?_) i5
        · rcases i2 with e | ⟨p, p1, p2, p3⟩
          · exact Or.inl e
          · exact Or.inr ⟨p, by omega, p2, p3⟩
        · rw [i4]
          constructor
          · rintro ⟨e1, e2⟩; exact ⟨by omega, e2⟩
          · rintro ⟨e1, e2⟩
            refine ⟨?_, e2⟩
            have : q ≠ k := by rintro rfl; exact ck e2.1
            omega
      refine tt_pV rfl rfl rfl md64 rfl (m_isC hS (show k < 14 by omega) (zI 1) (fun _ => rfl) (fun e => absurd ck e)) ?_
      refine z_if rfl (by first | assumption | (unfold R3; omega)) (fun c => absurd c (by simp only [zcd] <;> omega)) (fun c => ?_)
      refine tt_op rfl rfl ?_
      refine tt_op rfl rfl ?_
      refine tt_op rfl rfl ?_
      refine tt_op rfl rfl ?_
      refine tt_op rfl rfl ?_
      refine tt_op rfl rfl ?_
      refine tt_pV rfl rfl rfl md64 rfl (m_lies hb (show k < 14 by omega) x y z 0 zx zy zz ⟨by decide, by decide⟩) ?_
      rw [Int.sub_zero]
      have hvR : R6 (dot (x, y, z) (P k)) := ⟨by omega, by omega⟩
      have fin : ∀ (M' : Int) (B' : Nat) (l9 l10 : Option Value), (M ≤ M' ∧ dot (x, y, z) (P k) ≤ M' ∧ (M' = M ∨ M' = dot (x, y, z) (P k))) → (∀ q, B'.testBit q = true ↔ q < k + 1 ∧ isCor P m q ∧ dot (x, y, z) (P q) = M') → B' < 16384 → xT xmX6_far (100, 0, 0, 0, 0) 125 [some (.ref 64), some (zI x), some (zI y), some (zI z), some (zI wt), some (zJ M'), none, some (zI B'), some (zI k), l9, l10] [] n' (mdH h m P (1) tb fl co fa fb fs fr nn lv a fat w cm cX cY cZ cD su sv tu im rk ba go) (mPo hh m P cm cX cY cZ cD n' v) := by
        intro M' B' l9 l10 hM2 hB hB2
        refine z_iinc rfl rfl rfl ?_
        refine tt_goto rfl ?_
        refine ih (k + 1) M' B' _ _ (by omega) (fun p hp cp => ?_) ?_ (by omega) hB hB2
        · by_cases e : p = k
          · subst e; exact hM2.2.1
          · have := i1 p (by omega) cp; omega
        · rcases hM2.2.2 with e | e
          · rcases i2 with e2 | ⟨p, p1, p2, p3⟩
            · exact Or.inl (e.trans e2)
            · exact Or.inr ⟨p, by omega, p2, e.trans p3⟩
          · exact Or.inr ⟨k, by omega, ck, e⟩
      have pl := bits_pow (show k < 14 by omega)
      refine tt_op rfl rfl ?_
      refine tt_op rfl rfl ?_
      refine tt_op rfl rfl ?_
      refine z_lif rfl rfl hvR hM6 (fun d1 => ?_) (fun d1 => ?_)
      · simp only [zcd] at d1
        refine tt_op rfl rfl ?_
        refine tt_op rfl rfl ?_
        refine z_lif rfl rfl hvR hM6 (fun d2 => ?_) (fun d2 => ?_)
        · simp only [zcd] at d2
          refine tt_op rfl rfl ?_
          refine tt_op rfl rfl ?_
          refine tt_op rfl rfl ?_
          refine tt_op rfl rfl ?_
          refine z_lif rfl rfl hvR hM6 (fun d3 => ?_) (fun d3 => absurd (show zcd .le (dot (x, y, z) (P k)) M by simp only [zcd]; omega) d3)
          refine tt_op rfl rfl ?_
          refine tt_op rfl rfl ?_
          refine fin M B _ _ ⟨by omega, by omega, Or.inl rfl⟩ (fun q => ?_) i5
          rw [i4]
          constructor
          · rintro ⟨e1, e2⟩; exact ⟨by omega, e2⟩
          · rintro ⟨e1, e2, e3⟩
            refine ⟨?_, e2, e3⟩
            have : q ≠ k := by rintro rfl; exact d2 e3
            omega
        · simp only [zcd] at d2
          refine tt_op rfl rfl ?_
          refine tt_op rfl rfl ?_
          refine tt_op rfl rfl ?_
          refine z_shl1 rfl (by omega) ?_
          refine z_ior rfl ?_
          refine tt_goto rfl ?_
          refine tt_op rfl rfl ?_
          refine tt_op rfl rfl ?_
          refine tt_op rfl rfl ?_
          refine z_lif rfl rfl hvR hM6 (fun d3 => ?_) (fun d3 => absurd (show zcd .le (dot (x, y, z) (P k)) M by simp only [zcd]; omega) d3)
          refine tt_op rfl rfl ?_
          refine tt_op rfl rfl ?_
          refine fin M (B ||| 2 ^ k) _ _ ⟨by omega, by omega, Or.inl rfl⟩ (fun q => ?_) (bits_or i5 pl)
          rw [tb_or, Bool.or_eq_true, i4, decide_eq_true_eq]
          constructor
          · rintro (⟨e1, e2⟩ | e)
            · exact ⟨by omega, e2⟩
            · subst e; exact ⟨by omega, ck, by omega⟩
          · rintro ⟨e1, e2, e3⟩
            by_cases e : k = q
            · exact Or.inr e
            · exact Or.inl ⟨by omega, e2, e3⟩
      · simp only [zcd] at d1
        refine tt_op rfl rfl ?_
        refine tt_op rfl rfl ?_
        refine z_shl1 rfl (by omega) ?_
        refine tt_goto rfl ?_
        refine tt_op rfl rfl ?_
        refine tt_op rfl rfl ?_
        refine tt_op rfl rfl ?_
        refine z_lif rfl rfl hvR hM6 (fun d3 => absurd d3 (by simp only [zcd]; omega)) (fun d3 => ?_)
        refine tt_op rfl rfl ?_
        refine tt_goto rfl ?_
        refine tt_op rfl rfl ?_
        refine fin _ (2 ^ k) _ _ ⟨by omega, by omega, Or.inr rfl⟩ (fun q => ?_) pl
        rw [Nat.testBit_two_pow, decide_eq_true_eq]
        constructor
        · rintro e; subst e; exact ⟨by omega, ck, rfl⟩
        · rintro ⟨e1, e2, e3⟩
          apply Classical.byContradiction
          intro e
          have := i1 q (by omega) e2
          omega
  exact loop m 0 (-1000000000000) 0 none none (by omega) (fun p hp => by omega) (Or.inl rfl) (by omega) (fun q => by simp) (by omega)
set_option maxRecDepth 10000 in
set_option maxHeartbeats 1000000 in
theorem m_way (H : mHp hh m P cm cX cY cZ cD) (x y : Int) (hx : R3 x) (hy : R3 y) (v : Value)
    (hv3 : ¬ 0 < (blF P m).1 → v = zI (-3))
    (hv1 : 0 < (blF P m).1 → ¬ (isCo (hCB P m) x ∧ isCo (hCB P m) y) → v = zI (-1))
    (hv : 0 < (blF P m).1 → isCo (hCB P m) x ∧ isCo (hCB P m) y → v = zI (spR (hBs P m) y.toNat 14 0 (2 ^ x.toNat))) : xCall xmX6_way 100 0 0 [.ref 64, zI x, zI y] n hh (mPo hh m P cm cX cY cZ cD n v) := by
  obtain ⟨fs, hq⟩ := H.at
  refine xCall.of xgX6_way rfl ?_
  refine tt_op rfl rfl ?_
  refine tt_callV (M' := xmX6_noSolid) rfl rfl rfl hq rfl (m_noSolid H) ?_
  rintro res n' h' ⟨rfl, h64, ⟨hF, rfl, hM⟩ | ⟨hF, rfl, hM⟩⟩
  · refine z_if rfl (by first | assumption | (unfold R3; omega)) (fun c => absurd c (by simp only [zcd] <;> omega)) (fun c => ?_)
    refine tt_op rfl rfl ?_
    refine tt_ireturn rfl rfl (by rfl) (Nat.le_of_ble_eq_true rfl) (Nat.le_of_ble_eq_true rfl) ?_
    rw [hv3 hF]
    exact ⟨rfl, h64, hM, rfl⟩
  have hM' := hM.hp
  obtain ⟨h, tb, fl, co, fa, fb, fs, fr, nn, lv, a, fat, w, su, sv, tu, im, rk, ba, go, rfl, hI, hS⟩ := hM
  obtain ⟨_, ⟨hm, hb, hD⟩, hs, hA, hco, hbd, hmt, hrn⟩ := SF_u hS
  have hb' : ∀ j, j < m → vbd 20 (P j) := fun j hj => hb j (by omega)
  have hC := hCB_spec hm hb' hD hs
  have ci : ∀ k : Int, ((0 ≤ k ∧ k < m) ∧ co.testBit k.toNat = true) ↔ isCo (hCB P m) k := by
    intro k
    unfold isCo
    rw [hC, hco.2]
    constructor
    · rintro ⟨e1, e2⟩; exact ⟨⟨e1.1, by omega⟩, e2⟩
    · rintro ⟨e1, e2⟩; exact ⟨⟨e1.1, by have := e2.1; omega⟩, e2⟩
  have no : ¬ (isCo (hCB P m) x ∧ isCo (hCB P m) y) → ∀ ls, xT xmX6_way (100, 0, 0, 0, 0) 26 ls [] n' (mdH h m P (1) tb fl co fa fb fs fr nn lv a fat w cm cX cY cZ cD su sv tu im rk ba go) (mPo hh m P cm cX cY cZ cD n' v) := by
    intro e ls
    refine tt_op rfl rfl ?_
    refine tt_ireturn rfl rfl (by rfl) (Nat.le_of_ble_eq_true rfl) (Nat.le_of_ble_eq_true rfl) ?_
    rw [hv1 hF e]
    exact ⟨rfl, h64, hM', rfl⟩
  refine z_if rfl (by first | assumption | (unfold R3; omega)) (fun c => ?_) (fun c => absurd (by simp only [zcd] <;> omega) c)
  refine tt_op rfl rfl ?_
  refine tt_op rfl rfl ?_
  by_cases cx : isCo (hCB P m) x
  rotate_left
  · refine tt_pV rfl rfl rfl md64 rfl (m_isCorner hm hco.1 x hx (zI 0) (fun e => absurd ((ci x).1 e) cx) (fun _ => rfl)) ?_
    refine z_if rfl (by first | assumption | (unfold R3; omega)) (fun c => ?_) (fun c => absurd (by simp only [zcd] <;> omega) c)
    exact no (fun e => cx e.1) _
  refine tt_pV rfl rfl rfl md64 rfl (m_isCorner hm hco.1 x hx (zI 1) (fun _ => rfl) (fun e => absurd ((ci x).2 cx) e)) ?_
  refine z_if rfl (by first | assumption | (unfold R3; omega)) (fun c => absurd c (by simp only [zcd] <;> omega)) (fun c => ?_)
  refine tt_op rfl rfl ?_
  refine tt_op rfl rfl ?_
  by_cases cy : isCo (hCB P m) y
  rotate_left
  · refine tt_pV rfl rfl rfl md64 rfl (m_isCorner hm hco.1 y hy (zI 0) (fun e => absurd ((ci y).1 e) cy) (fun _ => rfl)) ?_
    refine z_if rfl (by first | assumption | (unfold R3; omega)) (fun c => absurd c (by simp only [zcd] <;> omega)) (fun c => ?_)
    exact no (fun e => cy e.2) _
  refine tt_pV rfl rfl rfl md64 rfl (m_isCorner hm hco.1 y hy (zI 1) (fun _ => rfl) (fun e => absurd ((ci y).2 cy) e)) ?_
  refine z_if rfl (by first | assumption | (unfold R3; omega)) (fun c => ?_) (fun c => absurd (by simp only [zcd] <;> omega) c)
  have hv' := hv hF ⟨cx, cy⟩
  obtain ⟨p0, rfl⟩ : ∃ p0 : Nat, x = p0 := ⟨x.toNat, by have := cx.1; omega⟩
  obtain ⟨q0, rfl⟩ : ∃ q0 : Nat, y = q0 := ⟨y.toNat, by have := cy.1; omega⟩
  have kx := (hC p0).1 (by have := cx.2; rwa [Int.toNat_natCast] at this)
  have ky := (hC q0).1 (by have := cy.2; rwa [Int.toNat_natCast] at this)
  have p14 : p0 < 14 := by have := kx.1; omega
  have q14 : q0 < 14 := by have := ky.1; omega
  rw [Int.toNat_natCast, Int.toNat_natCast] at hv'
  obtain ⟨t, _, t2, t3, t4⟩ := spR_spec (P := P) (m := m) (a := p0) (to := q0) hm kx.1 (b := hBs P m) (fun p q _ => hBs_spec hm hb' hD p q) 14 0 (2 ^ p0) (fun x => by rw [Nat.testBit_two_pow, decide_eq_true_eq]; exact ⟨fun e => e.symm, fun e => Eq.symm e⟩) ⟨13, by omega, by omega, rch_all hm hD hs kx ky⟩
  rw [t4] at hv'
  have main : ∀ (j s wd : Nat) (l5 l6 l7 : Option Value), s + j = t → (∀ x, wd.testBit x = true ↔ rch P m p0 s x) → wd < 16384 → xT xmX6_way (100, 0, 0, 0, 0) 35 [some (.ref 64), some (zI p0), some (zI q0), some (zI wd), some (zI s), l5, l6, l7] [] n' (mdH h m P (1) tb fl co fa fb fs fr nn lv a fat w cm cX cY cZ cD su sv tu im rk ba go) (mPo hh m P cm cX cY cZ cD n' v) := by
    intro j
    induction j with
    | zero =>
      intro s wd l5 l6 l7 hst hw hwl
      have : s = t := by omega
      subst this
      refine tt_op rfl rfl ?_
      refine tt_op rfl rfl ?_
      refine z_tb rfl rfl rfl (by omega) (by omega) ?_
      rw [if_pos ((hw q0).2 t2)]
      refine z_if rfl (by first | assumption | (unfold R3; omega)) (fun c => ?_) (fun c => absurd (by simp only [zcd] <;> omega) c)
      refine tt_op rfl rfl ?_
      refine tt_ireturn rfl rfl (by rfl) (Nat.le_of_ble_eq_true rfl) (Nat.le_of_ble_eq_true rfl) ?_
      rw [hv']
      exact ⟨rfl, h64, hM', rfl⟩
    | succ j ih =>
      intro s wd l5 l6 l7 hst hw hwl
      refine tt_op rfl rfl ?_
      refine tt_op rfl rfl ?_
      refine z_tb rfl rfl rfl (by omega) (by omega) ?_
      rw [if_neg (fun e => t3 s (by omega) (by omega) ((hw q0).1 e))]
      refine z_if rfl (by first | assumption | (unfold R3; omega)) (fun c => absurd c (by simp only [zcd] <;> omega)) (fun c => ?_)
      refine tt_op rfl rfl ?_
      refine tt_op rfl rfl ?_
      refine tt_op rfl rfl ?_
      refine tt_op rfl rfl ?_
      have rows : ∀ (j p mo : Nat) (l7 : Option Value), p + j = m → (∀ x, mo.testBit x = true ↔ wd.testBit x = true ∨ ∃ p', p' < p ∧ wd.testBit p' = true ∧ isEd P m p' x) → mo < 16384 → xT xmX6_way (100, 0, 0, 0, 0) 49 [some (.ref 64), some (zI p0), some (zI q0), some (zI wd), some (zI s), some (zI mo), some (zI p), l7] [] n' (mdH h m P (1) tb fl co fa fb fs fr nn lv a fat w cm cX cY cZ cD su sv tu im rk ba go) (mPo hh m P cm cX cY cZ cD n' v) := by
        intro j
        induction j with
        | zero =>
          intro p mo l7 hp hmo hml
          have : p = m := by omega
          subst this
          refine tt_op rfl rfl ?_
          refine tt_op rfl rfl ?_
          refine tt_get rfl md64 (by rfl) ?_
          refine z_icmp rfl (by first | assumption | (unfold R3; omega)) (by first | assumption | (unfold R3; omega)) (fun c => ?_) (fun c => absurd (by simp only [zcd] <;> omega) c)
          refine tt_op rfl rfl ?_
          refine tt_op rfl rfl ?_
          refine z_iinc rfl rfl rfl ?_
          refine tt_goto rfl ?_
          refine ih (s + 1) mo _ _ _ (by omega) (fun x => ?_) hml
          rw [hmo, hw]
          constructor
          · rintro (e | ⟨p', _, e1, e2⟩)
            · exact Or.inl e
            · exact Or.inr ⟨p', (hw p').1 e1, e2⟩
          · rintro (e | ⟨p', e1, e2⟩)
            · exact Or.inl e
            · exact Or.inr ⟨p', rch_lt kx.1 s p' e1, (hw p').2 e1, e2⟩
        | succ j ihp =>
          intro p mo l7 hp hmo hml
          refine tt_op rfl rfl ?_
          refine tt_op rfl rfl ?_
          refine tt_get rfl md64 (by rfl) ?_
          refine z_icmp rfl (by first | assumption | (unfold R3; omega)) (by first | assumption | (unfold R3; omega)) (fun c => absurd c (by simp only [zcd] <;> omega)) (fun c => ?_)
          refine tt_op rfl rfl ?_
          refine tt_op rfl rfl ?_
          have cols : ∀ (j q mo' : Nat), q + j = m → (∀ x, mo'.testBit x = true ↔ mo.testBit x = true ∨ (x < q ∧ wd.testBit p = true ∧ isEd P m p x)) → mo' < 16384 → xT xmX6_way (100, 0, 0, 0, 0) 61 [some (.ref 64), some (zI p0), some (zI q0), some (zI wd), some (zI s), some (zI mo'), some (zI p), some (zI q)] [] n' (mdH h m P (1) tb fl co fa fb fs fr nn lv a fat w cm cX cY cZ cD su sv tu im rk ba go) (mPo hh m P cm cX cY cZ cD n' v) := by
            intro j
            induction j with
            | zero =>
              intro q mo' hq hmo' hml'
              have : q = m := by omega
              subst this
              refine tt_op rfl rfl ?_
              refine tt_op rfl rfl ?_
              refine tt_get rfl md64 (by rfl) ?_
              refine z_icmp rfl (by first | assumption | (unfold R3; omega)) (by first | assumption | (unfold R3; omega)) (fun c => ?_) (fun c => absurd (by simp only [zcd] <;> omega) c)
              refine z_iinc rfl rfl rfl ?_
              refine tt_goto rfl ?_
              refine ihp (p + 1) mo' _ (by omega) (fun x => ?_) hml'
              rw [hmo', hmo]
              constructor
              · rintro ((e | ⟨p', e1, e2⟩) | ⟨_, e1, e2⟩)
                · exact Or.inl e
                · exact Or.inr ⟨p', by omega, e2⟩
                · exact Or.inr ⟨p, by omega, e1, e2⟩
              · rintro (e | ⟨p', e1, e2, e3⟩)
                · exact Or.inl (Or.inl e)
                · by_cases e : p' = p
                  · subst e; exact Or.inr ⟨e3.2.2.1.1, e2, e3⟩
                  · exact Or.inl (Or.inr ⟨p', by omega, e2, e3⟩)
            | succ j ihq =>
              intro q mo' hq hmo' hml'
              have pl := bits_pow (show q < 14 by omega)
              have nxt : ∀ (x mo'' : Nat), mo' ||| x = mo'' → (∀ y, mo''.testBit y = true ↔ mo.testBit y = true ∨ (y < q + 1 ∧ wd.testBit p = true ∧ isEd P m p y)) → mo'' < 16384 → xT xmX6_way (100, 0, 0, 0, 0) 101 [some (.ref 64), some (zI p0), some (zI q0), some (zI wd), some (zI s), some (zI mo'), some (zI p), some (zI q)] [zI x, zI mo'] n' (mdH h m P (1) tb fl co fa fb fs fr nn lv a fat w cm cX cY cZ cD su sv tu im rk ba go) (mPo hh m P cm cX cY cZ cD n' v) := by
                intro x mo'' e hb'' hl''
                refine z_ior rfl ?_
                refine tt_op rfl rfl ?_
                refine z_iinc rfl rfl rfl ?_
                refine tt_goto rfl ?_
                rw [e]
                exact ihq (q + 1) mo'' (by omega) hb'' hl''
              have keep : ¬ (wd.testBit p = true ∧ isEd P m p q) → ∀ y, mo'.testBit y = true ↔ mo.testBit y = true ∨ (y < q + 1 ∧ wd.testBit p = true ∧ isEd P m p y) := by
                intro hne y
                rw [hmo']
                constructor
                · rintro (e | ⟨e1, e2⟩)
                  · exact Or.inl e
                  · exact Or.inr ⟨by omega, e2⟩
                · rintro (e | ⟨e1, e2⟩)
                  · exact Or.inl e
                  · refine Or.inr ⟨?_, e2⟩
                    have : y ≠ q := by rintro rfl; exact hne e2
                    omega
              refine tt_op rfl rfl ?_
              refine tt_op rfl rfl ?_
              refine tt_get rfl md64 (by rfl) ?_
              refine z_icmp rfl (by first | assumption | (unfold R3; omega)) (by first | assumption | (unfold R3; omega)) (fun c => absurd c (by simp only [zcd] <;> omega)) (fun c => ?_)
              refine tt_op rfl rfl ?_
              refine tt_op rfl rfl ?_
              refine tt_op rfl rfl ?_
              refine z_tb rfl rfl rfl (by omega) (by omega) ?_
              refine tt_op rfl rfl ?_
              by_cases hwp : wd.testBit p = true
              rotate_left
              · rw [if_neg hwp]
                refine z_icmp rfl (by first | assumption | (unfold R3; omega)) (by first | assumption | (unfold R3; omega)) (fun c => ?_) (fun c => absurd (by simp only [zcd] <;> omega) c)
                refine tt_op rfl rfl ?_
                exact nxt 0 mo' (Nat.or_zero _) (keep (fun e => hwp e.1)) hml'
              rw [if_pos hwp]
              refine z_icmp rfl (by first | assumption | (unfold R3; omega)) (by first | assumption | (unfold R3; omega)) (fun c => absurd c (by simp only [zcd] <;> omega)) (fun c => ?_)
              refine tt_op rfl rfl ?_
              refine tt_op rfl rfl ?_
              refine tt_op rfl rfl ?_
              by_cases he : isEd P m p q
              · refine tt_pV rfl rfl rfl md64 rfl (m_isEdge hS (p := p) (q := q) (by omega) (by omega) (zI 1) (fun _ => rfl) (fun e => absurd he e)) ?_
                refine z_if rfl (by first | assumption | (unfold R3; omega)) (fun c => absurd c (by simp only [zcd] <;> omega)) (fun c => ?_)
                refine tt_op rfl rfl ?_
                refine tt_op rfl rfl ?_
                refine z_shl1 rfl (by omega) ?_
                refine tt_goto rfl ?_
                refine nxt (2 ^ q) _ rfl (fun y => ?_) (bits_or hml' pl)
                rw [tb_or, Bool.or_eq_true, hmo', decide_eq_true_eq]
                constructor
                · rintro ((e | ⟨e1, e2⟩) | e)
                  · exact Or.inl e
                  · exact Or.inr ⟨by omega, e2⟩
                  · subst e; exact Or.inr ⟨by omega, hwp, he⟩
                · rintro (e | ⟨e1, e2⟩)
                  · exact Or.inl (Or.inl e)
                  · by_cases e : q = y
                    · exact Or.inr e
                    · exact Or.inl (Or.inr ⟨by omega, e2⟩)
              · refine tt_pV rfl rfl rfl md64 rfl (m_isEdge hS (p := p) (q := q) (by omega) (by omega) (zI 0) (fun e => absurd e he) (fun _ => rfl)) ?_
                refine z_if rfl (by first | assumption | (unfold R3; omega)) (fun c => ?_) (fun c => absurd (by simp only [zcd] <;> omega) c)
                refine tt_op rfl rfl ?_
                exact nxt 0 mo' (Nat.or_zero _) (keep (fun e => he e.2)) hml'
          exact cols m 0 mo (by omega) (fun x => ⟨Or.inl, fun e => e.elim id (fun e => by have := e.1; omega)⟩) hml
      exact rows m 0 wd _ (by omega) (fun x => ⟨Or.inl, fun e => e.elim id (fun ⟨p', e, _⟩ => by omega)⟩) hwl
  refine tt_op rfl rfl ?_
  refine tt_op rfl rfl ?_
  refine z_shl1 rfl (by omega) ?_
  refine tt_op rfl rfl ?_
  refine tt_op rfl rfl ?_
  refine tt_op rfl rfl ?_
  exact main t 0 (2 ^ p0) none none none (by omega) (fun x => by rw [Nat.testBit_two_pow, decide_eq_true_eq]; exact ⟨fun e => e.symm, fun e => Eq.symm e⟩) (bits_pow p14)
end M9
