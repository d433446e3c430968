/-! The reference: points, corners, edges, faces -/
theorem ed_cnt {P : Nat → V3} {m : Nat} (hD : Dis P m) {fa : Nat} {fb : Nat → Nat} {nn : Nat → V3} {lv : Nat → Int} (h : mAll P m fa fb nn lv) {p q : Nat} : isEd P m p q ↔ p ≠ q ∧ isCor P m p ∧ isCor P m q ∧ 1 < cnt (fun f => decide (fb f &&& (2 ^ p ||| 2 ^ q) = (2 ^ p ||| 2 ^ q))) fa := by
  obtain ⟨_, h1, h2, h3⟩ := h
  have twob : ∀ p q k : Nat, (2 ^ p ||| 2 ^ q).testBit k = true ↔ p = k ∨ q = k := fun p q k => by rw [tb_or, Bool.or_eq_true, Nat.testBit_two_pow, decide_eq_true_eq, decide_eq_true_eq]
  have sub : ∀ f, f < fa → (fb f &&& (2 ^ p ||| 2 ^ q) = (2 ^ p ||| 2 ^ q) ↔ fA P m (nn f) (lv f) p ∧ fA P m (nn f) (lv f) q) := by
    intro f hf
    rw [and_all]
    constructor
    · intro h; exact ⟨((h1 f hf).2 p).1 (h p ((twob p q p).2 (Or.inl rfl))), ((h1 f hf).2 q).1 (h q ((twob p q q).2 (Or.inr rfl)))⟩
    · rintro ⟨a, b⟩ k hk
      rcases (twob p q k).1 hk with rfl | rfl
      · exact ((h1 f hf).2 p).2 a
      · exact ((h1 f hf).2 q).2 b
  rw [cnt_ct, ct_two]
  constructor
  · rintro ⟨a, b, c, n1, l1, n2, l2, F1, F2, hn, p1, q1, p2, q2⟩
    obtain ⟨f, f1, rfl, rfl⟩ := h3 _ _ F1
    obtain ⟨g, g1, rfl, rfl⟩ := h3 _ _ F2
    exact ⟨a, b, c, f, g, f1, g1, by rw [decide_eq_true_eq]; exact (sub f f1).2 ⟨p1, q1⟩, by rw [decide_eq_true_eq]; exact (sub g g1).2 ⟨p2, q2⟩, fun e => hn (by rw [e])⟩
  · rintro ⟨a, b, c, f, g, f1, g1, pf, pg, fg⟩
    rw [decide_eq_true_eq] at pf pg
    have x := (sub f f1).1 pf
    have y := (sub g g1).1 pg
    exact ⟨a, b, c, nn f, lv f, nn g, lv g, (h1 f f1).1, (h1 g g1).1, fun e => fg (h2 f g f1 g1 e), x.1, x.2, y.1, y.2⟩
section M5
variable {h : xHp} {m : Nat} {P : Nat → V3} {bu tb fl co fa : Nat} {fb fs fr : Nat → Nat} {nn : Nat → V3} {lv : Nat → Int} {a : V3} {fat : Nat → Nat} {w : Int × V3} {cm : Int} {cX cY cZ cD su sv : Nat → Int} {tu : Nat} {im : Nat → Int} {rk ba : Nat → Nat} {go : Nat → Int}
variable {n : Nat} {hh : xHp}
/-- the same, laid open -/
theorem SF_u (hS : SF P m (fl, co, fa, fb, fs, fr, nn, lv, fat)) : fl = 0 ∧ (m ≤ 14 ∧ pbd P ∧ Dis P m) ∧ Sol P m ∧ mAll P m fa fb nn lv ∧ (co < 16384 ∧ ∀ k, co.testBit k = true ↔ isCor P m k) ∧ ((∀ j, j < 24 → fb j < 16384) ∧ (∀ j, j < 24 → vbd 3200 (nn j)) ∧ (∀ j, j < 24 → -1000000 ≤ lv j ∧ lv j ≤ 1000000) ∧ ∀ j, j < 336 → fr j < 14) ∧ (fa = (blF P m).1 ∧ ∀ i, i < (blF P m).1 → fat i < fa ∧ nn (fat i) = ((blF P m).2 i).1 ∧ lv (fat i) = ((blF P m).2 i).2.1 ∧ fs (fat i) = fLen P m i ∧ ∀ k, k < fLen P m i → fr (14 * fat i + k) = fRow P m i k) ∧ ∀ f, f < fa → rnd P (fA P m (nn f) (lv f)) (nn f) (fun k => fr (14 * f + k)) (fs f) := hS
/-- a call's end: the class's cells as they were, the model's good, this answer -/
def mPo (hh : xHp) (m : Nat) (P : Nat → V3) (cm : Int) (cX cY cZ cD : Nat → Int) (n : Nat) (v : Value) : xQt := fun r n' h' => n' = n ∧ (∀ j, j < 64 → h' j = hh j) ∧ mHp h' m P cm cX cY cZ cD ∧ r = some v
theorem mHp.at (H : mHp hh m P cm cX cY cZ cD) : ∃ fs, hh 64 = some (.inr (6, fs)) := by
  obtain ⟨h, bu, tb, fl, co, fa, fb, fs, fr, nn, lv, a, fat, w, su, sv, tu, im, rk, ba, go, rfl, hI⟩ := H
  exact ⟨_, md64⟩
theorem m_flat (H : mHp hh m P cm cX cY cZ cD) : xCall xmX6_flat 100 0 0 [.ref 64] n hh (mPo hh m P cm cX cY cZ cD n (zI (if 0 < (blF P m).1 then 0 else 1))) := by
  obtain ⟨fs, hq⟩ := H.at
  refine xCall.of xgX6_flat rfl ?_
  refine tt_op rfl rfl ?_
  refine tt_callV (M' := xmX6_noSolid) rfl rfl rfl hq rfl (m_noSolid H) ?_
  rintro res n' h' ⟨rfl, h64, ⟨hF, rfl, hM⟩ | ⟨hF, rfl, hM⟩⟩
  · rw [if_neg hF]
    refine tt_ireturn rfl rfl (by rfl) (Nat.le_of_ble_eq_true rfl) (Nat.le_of_ble_eq_true rfl) ?_
    exact ⟨rfl, h64, hM, rfl⟩
  · rw [if_pos hF]
    refine tt_ireturn rfl rfl (by rfl) (Nat.le_of_ble_eq_true rfl) (Nat.le_of_ble_eq_true rfl) ?_
    exact ⟨rfl, h64, hM.hp, rfl⟩
theorem m_corners (H : mHp hh m P cm cX cY cZ cD) : xCall xmX6_corners 100 0 0 [.ref 64] n hh (mPo hh m P cm cX cY cZ cD n (zI (if 0 < (blF P m).1 then (hCB P m : Int) else -3))) := by
  obtain ⟨fs, hq⟩ := H.at
  refine xCall.of xgX6_corners rfl ?_
  refine tt_op rfl rfl ?_
  refine tt_callV (M' := xmX6_noSolid) rfl rfl rfl hq rfl (m_noSolid H) ?_
  rintro res n' h' ⟨rfl, h64, ⟨hF, rfl, hM⟩ | ⟨hF, rfl, hM⟩⟩
  · rw [if_neg hF]
    refine z_if rfl (by first | assumption | (unfold R3; omega)) (fun c => absurd c (by simp only [zcd] <;> omega)) (fun c => ?_)
    refine tt_op rfl rfl ?_
    refine tt_goto rfl ?_
    refine tt_ireturn rfl rfl (by rfl) (Nat.le_of_ble_eq_true rfl) (Nat.le_of_ble_eq_true rfl) ?_
    exact ⟨rfl, h64, hM, rfl⟩
  · rw [if_pos hF]
    have hM' := hM.hp
    obtain ⟨h, tb, fl, co, fa, fb, fs, fr, nn, lv, a, fat, w, su, sv, tu, im, rk, ba, go, rfl, hI, hS⟩ := hM
    obtain ⟨_, ⟨hm, hb, hD⟩, hs, _, hco, _⟩ := SF_u hS
    refine z_if rfl (by first | assumption | (unfold R3; omega)) (fun c => ?_) (fun c => absurd (by simp only [zcd] <;> omega) c)
    refine tt_op rfl rfl ?_
    refine tt_get rfl md64 (by rfl) ?_
    refine tt_ireturn rfl rfl (by rfl) (Nat.le_of_ble_eq_true rfl) (Nat.le_of_ble_eq_true rfl) ?_
    refine ⟨rfl, h64, hM', ?_⟩
    have e : co = hCB P m := bits_eq (fun k => (hco.2 k).trans (hCB_spec hm (fun j hj => hb j (by omega)) hD hs k).symm)
    rw [e]
theorem m_faces (H : mHp hh m P cm cX cY cZ cD) : xCall xmX6_faces 100 0 0 [.ref 64] n hh (mPo hh m P cm cX cY cZ cD n (zI (if 0 < (blF P m).1 then ((blF P m).1 : Int) else -3))) := by
  obtain ⟨fs, hq⟩ := H.at
  refine xCall.of xgX6_faces rfl ?_
  refine tt_op rfl rfl ?_
  refine tt_callV (M' := xmX6_noSolid) rfl rfl rfl hq rfl (m_noSolid H) ?_
  rintro res n' h' ⟨rfl, h64, ⟨hF, rfl, hM⟩ | ⟨hF, rfl, hM⟩⟩
  · rw [if_neg hF]
    refine z_if rfl (by first | assumption | (unfold R3; omega)) (fun c => absurd c (by simp only [zcd] <;> omega)) (fun c => ?_)
    refine tt_op rfl rfl ?_
    refine tt_goto rfl ?_
    refine tt_ireturn rfl rfl (by rfl) (Nat.le_of_ble_eq_true rfl) (Nat.le_of_ble_eq_true rfl) ?_
    exact ⟨rfl, h64, hM, rfl⟩
  · rw [if_pos hF]
    have hM' := hM.hp
    obtain ⟨h, tb, fl, co, fa, fb, fs, fr, nn, lv, a, fat, w, su, sv, tu, im, rk, ba, go, rfl, hI, hS⟩ := hM
    obtain ⟨_, _, _, _, _, _, hmt, _⟩ := SF_u hS
    refine z_if rfl (by first | assumption | (unfold R3; omega)) (fun c => ?_) (fun c => absurd (by simp only [zcd] <;> omega) c)
    refine tt_op rfl rfl ?_
    refine tt_get rfl md64 (by rfl) ?_
    refine tt_ireturn rfl rfl (by rfl) (Nat.le_of_ble_eq_true rfl) (Nat.le_of_ble_eq_true rfl) ?_
    refine ⟨rfl, h64, hM', ?_⟩
    have e : fa = (blF P m).1 := hmt.1
    rw [e]
theorem m_size (H : mHp hh m P cm cX cY cZ cD) (x : Int) (hx : R3 x) : xCall xmX6_size 100 0 0 [.ref 64, zI x] n hh (mPo hh m P cm cX cY cZ cD n (zI (if 0 < (blF P m).1 then (if 0 ≤ x ∧ x < (blF P m).1 then (fLen P m x.toNat : Int) else -1) else -3))) := by
  obtain ⟨fs, hq⟩ := H.at
  refine xCall.of xgX6_size rfl ?_
  refine tt_op rfl rfl ?_
  refine tt_callV (M' := xmX6_noSolid) rfl rfl rfl hq rfl (m_noSolid H) ?_
  rintro res n' h' ⟨rfl, h64, ⟨hF, rfl, hM⟩ | ⟨hF, rfl, hM⟩⟩
  · rw [if_neg hF]
    refine z_if rfl (by first | assumption | (unfold R3; omega)) (fun c => absurd c (by simp only [zcd] <;> omega)) (fun c => ?_)
    refine tt_op rfl rfl ?_
    refine tt_goto rfl ?_
    refine tt_ireturn rfl rfl (by rfl) (Nat.le_of_ble_eq_true rfl) (Nat.le_of_ble_eq_true rfl) ?_
    exact ⟨rfl, h64, hM, rfl⟩
  · rw [if_pos hF]
    have hM' := hM.hp
    obtain ⟨h, tb, fl, co, fa, fb, fs, fr, nn, lv, a, fat, w, su, sv, tu, im, rk, ba, go, rfl, hI, hS⟩ := hM
    obtain ⟨_, _, _, hA, _, _, hmt, _⟩ := SF_u hS
    have h24 : fa ≤ 24 := hA.1
    have e : fa = (blF P m).1 := hmt.1
    refine z_if rfl (by first | assumption | (unfold R3; omega)) (fun c => ?_) (fun c => absurd (by simp only [zcd] <;> omega) c)
    refine tt_op rfl rfl ?_
    refine tt_op rfl rfl ?_
    refine tt_op rfl rfl ?_
    refine tt_get rfl md64 (by rfl) ?_
    refine tt_op rfl rfl ?_
    refine z_isub rfl ?_
    refine tt_pS rfl rfl rfl rfl (m_in x 0 ((fa : Int) - 1) hx ⟨by omega, by omega⟩ ⟨by omega, by omega⟩ _ _) ?_
    by_cases hi : 0 ≤ x ∧ x ≤ (fa : Int) - 1
    · rw [if_pos hi, if_pos (by omega)]
      obtain ⟨j, rfl⟩ : ∃ j : Nat, x = j := ⟨x.toNat, by omega⟩
      obtain ⟨k1, _, _, k4, _⟩ := hmt.2 j (by omega)
      refine z_if rfl (by first | assumption | (unfold R3; omega)) (fun c => absurd c (by simp only [zcd] <;> omega)) (fun c => ?_)
      refine tt_op rfl rfl ?_
      refine tt_get rfl md64 (by rfl) ?_
      refine tt_op rfl rfl ?_
      refine tt_get rfl md64 (by rfl) ?_
      refine tt_op rfl rfl ?_
      refine z_iald rfl md75 rfl (by omega) (by decide) ?_
      refine z_iald rfl md69 rfl (by omega) (by decide) ?_
      refine tt_goto rfl ?_
      refine tt_ireturn rfl rfl (by rfl) (Nat.le_of_ble_eq_true rfl) (Nat.le_of_ble_eq_true rfl) ?_
      refine ⟨rfl, h64, hM', ?_⟩
      rw [k4]; rfl
    · rw [if_neg hi, if_neg (by omega)]
      refine z_if rfl (by first | assumption | (unfold R3; omega)) (fun c => ?_) (fun c => absurd (by simp only [zcd] <;> omega) c)
      refine tt_op rfl rfl ?_
      refine tt_ireturn rfl rfl (by rfl) (Nat.le_of_ble_eq_true rfl) (Nat.le_of_ble_eq_true rfl) ?_
      exact ⟨rfl, h64, hM', rfl⟩
theorem m_isCorner (hm : m ≤ 14) (hco : co < 16384) (k : Int) (hk : R3 k) (v : Value) (h1 : (0 ≤ k ∧ k < m) ∧ co.testBit k.toNat = true → v = zI 1) (h0 : ¬ ((0 ≤ k ∧ k < m) ∧ co.testBit k.toNat = true) → v = zI 0) : xPure xmX6_isCorner 2 [.ref 64, zI k] n (mdH h m P bu tb fl co fa fb fs fr nn lv a fat w cm cX cY cZ cD su sv tu im rk ba go) v := by
  refine xCall.of xgX6_isCorner rfl ?_
  refine tt_op rfl rfl ?_
  refine tt_op rfl rfl ?_
  refine tt_op rfl rfl ?_
  refine tt_get rfl md64 (by rfl) ?_
  refine tt_op rfl rfl ?_
  refine z_isub rfl ?_
  refine tt_pS rfl rfl rfl rfl (m_in k 0 ((m : Int) - 1) hk ⟨by omega, by omega⟩ ⟨by omega, by omega⟩ _ _) ?_
  by_cases hi : 0 ≤ k ∧ k ≤ (m : Int) - 1
  · rw [if_pos hi]
    obtain ⟨j, rfl⟩ : ∃ j : Nat, k = j := ⟨k.toNat, by omega⟩
    refine z_if rfl (by first | assumption | (unfold R3; omega)) (fun c => absurd c (by simp only [zcd] <;> omega)) (fun c => ?_)
    refine tt_op rfl rfl ?_
    refine tt_get rfl md64 (by rfl) ?_
    refine tt_op rfl rfl ?_
    refine z_tb rfl rfl rfl (by omega) (by omega) ?_
    refine tt_op rfl rfl ?_
    by_cases hbit : co.testBit j = true
    · rw [if_pos hbit]
      refine z_icmp rfl (by first | assumption | (unfold R3; omega)) (by first | assumption | (unfold R3; omega)) (fun c => absurd c (by simp only [zcd] <;> omega)) (fun c => ?_)
      refine tt_op rfl rfl ?_
      refine tt_goto rfl ?_
      refine tt_ireturn rfl rfl (by rfl) (Nat.le_of_ble_eq_true rfl) (Nat.le_of_ble_eq_true rfl) ?_
      rw [h1 ⟨⟨by omega, by omega⟩, by simpa using hbit⟩]
      exact ⟨rfl, rfl, rfl⟩
    · rw [if_neg hbit]
      refine z_icmp rfl (by first | assumption | (unfold R3; omega)) (by first | assumption | (unfold R3; omega)) (fun c => ?_) (fun c => absurd (by simp only [zcd] <;> omega) c)
      refine tt_op rfl rfl ?_
      refine tt_ireturn rfl rfl (by rfl) (Nat.le_of_ble_eq_true rfl) (Nat.le_of_ble_eq_true rfl) ?_
      rw [h0 (fun e => hbit (by simpa using e.2))]
      exact ⟨rfl, rfl, rfl⟩
  · rw [if_neg hi]
    refine z_if rfl (by first | assumption | (unfold R3; omega)) (fun c => ?_) (fun c => absurd (by simp only [zcd] <;> omega) c)
    refine tt_op rfl rfl ?_
    refine tt_ireturn rfl rfl (by rfl) (Nat.le_of_ble_eq_true rfl) (Nat.le_of_ble_eq_true rfl) ?_
    rw [h0 (fun e => hi (by omega))]
    exact ⟨rfl, rfl, rfl⟩
/-- for a point's number -/
theorem m_isC (hS : SF P m (fl, co, fa, fb, fs, fr, nn, lv, fat)) {k : Nat} (hk : k < 14) (v : Value) (h1 : isCor P m k → v = zI 1) (h0 : ¬ isCor P m k → v = zI 0) : xPure xmX6_isCorner 2 [.ref 64, zI k] n (mdH h m P bu tb fl co fa fb fs fr nn lv a fat w cm cX cY cZ cD su sv tu im rk ba go) v := by
  obtain ⟨_, ⟨hm, hb, hD⟩, hs, _, hco, _⟩ := SF_u hS
  have hco2 : ∀ k, co.testBit k = true ↔ isCor P m k := hco.2
  refine m_isCorner hm hco.1 k ⟨by omega, by omega⟩ v (fun e => h1 ?_) (fun e => h0 fun c => e ?_)
  · have := e.2; rw [Int.toNat_natCast] at this; exact (hco2 k).1 this
  · rw [Int.toNat_natCast]; exact ⟨⟨by omega, by have := c.1; omega⟩, (hco2 k).2 c⟩
theorem m_isEdge (hS : SF P m (fl, co, fa, fb, fs, fr, nn, lv, fat)) {p q : Nat} (hp : p < 14) (hq : q < 14) (v : Value) (h1 : isEd P m p q → v = zI 1) (h0 : ¬ isEd P m p q → v = zI 0) : xPure xmX6_isEdge 3 [.ref 64, zI p, zI q] n (mdH h m P bu tb fl co fa fb fs fr nn lv a fat w cm cX cY cZ cD su sv tu im rk ba go) v := by
  obtain ⟨_, ⟨hm, hb, hD⟩, hs, hA, hco, hbd, _⟩ := SF_u hS
  have ec := ed_cnt (p := p) (q := q) hD hA
  have hA1 : fa ≤ 24 := hA.1
  have no : ¬ isEd P m p q → xT xmX6_isEdge (3, 0, 0, 0, 0) 40 [some (.ref 64), some (zI p), some (zI q)] [] n (mdH h m P bu tb fl co fa fb fs fr nn lv a fat w cm cX cY cZ cD su sv tu im rk ba go) (fun r n' h' => r = some v ∧ n' = n ∧ h' = (mdH h m P bu tb fl co fa fb fs fr nn lv a fat w cm cX cY cZ cD su sv tu im rk ba go)) := by
    intro e
    refine tt_op rfl rfl ?_
    refine tt_ireturn rfl rfl (by rfl) (Nat.le_of_ble_eq_true rfl) (Nat.le_of_ble_eq_true rfl) ?_
    rw [h0 e]
    exact ⟨rfl, rfl, rfl⟩
  refine xCall.of xgX6_isEdge rfl ?_
  refine tt_op rfl rfl ?_
  refine tt_op rfl rfl ?_
  refine z_icmp rfl (by first | assumption | (unfold R3; omega)) (by first | assumption | (unfold R3; omega)) (fun c1 => ?_) (fun c1 => ?_)
  · simp only [zcd] at c1
    exact no (fun e => e.1 (by omega))
  simp only [zcd] at c1
  refine tt_op rfl rfl ?_
  refine tt_op rfl rfl ?_
  by_cases cp : isCor P m p
  rotate_left
  · refine tt_pV rfl rfl rfl md64 rfl (m_isC hS hp (zI 0) (fun e => absurd e cp) (fun _ => rfl)) ?_
    refine z_if rfl (by first | assumption | (unfold R3; omega)) (fun c => ?_) (fun c => absurd (by simp only [zcd] <;> omega) c)
    exact no (fun e => cp e.2.1)
  refine tt_pV rfl rfl rfl md64 rfl (m_isC hS hp (zI 1) (fun _ => rfl) (fun e => absurd cp e)) ?_
  refine z_if rfl (by first | assumption | (unfold R3; omega)) (fun c => absurd c (by simp only [zcd] <;> omega)) (fun c => ?_)
  refine tt_op rfl rfl ?_
  refine tt_op rfl rfl ?_
  by_cases cq : isCor P m q
  rotate_left
  · refine tt_pV rfl rfl rfl md64 rfl (m_isC hS hq (zI 0) (fun e => absurd e cq) (fun _ => rfl)) ?_
    refine z_if rfl (by first | assumption | (unfold R3; omega)) (fun c => ?_) (fun c => absurd (by simp only [zcd] <;> omega) c)
    exact no (fun e => cq e.2.2.1)
  refine tt_pV rfl rfl rfl md64 rfl (m_isC hS hq (zI 1) (fun _ => rfl) (fun e => absurd cq e)) ?_
  refine z_if rfl (by first | assumption | (unfold R3; omega)) (fun c => absurd c (by simp only [zcd] <;> omega)) (fun c => ?_)
  refine tt_op rfl rfl ?_
  refine tt_op rfl rfl ?_
  refine tt_op rfl rfl ?_
  refine z_shl1 rfl (by omega) ?_
  refine tt_op rfl rfl ?_
  refine tt_op rfl rfl ?_
  refine z_shl1 rfl (by omega) ?_
  refine z_ior rfl ?_
  have hcn := cnt_le (fun f => decide (fb f &&& (2 ^ p ||| 2 ^ q) = (2 ^ p ||| 2 ^ q))) fa
  refine tt_pV rfl rfl rfl md64 rfl (m_facesOf hA1 hbd.1 (2 ^ p ||| 2 ^ q) (bits_or (bits_pow hp) (bits_pow hq))) ?_
  refine tt_op rfl rfl ?_
  refine z_icmp rfl ⟨by omega, by omega⟩ ⟨by decide, by decide⟩ (fun c2 => ?_) (fun c2 => ?_)
  · simp only [zcd] at c2
    exact no (fun e => by have := (ec.1 e).2.2.2; omega)
  · simp only [zcd] at c2
    refine tt_op rfl rfl ?_
    refine tt_goto rfl ?_
    refine tt_ireturn rfl rfl (by rfl) (Nat.le_of_ble_eq_true rfl) (Nat.le_of_ble_eq_true rfl) ?_
    rw [h1 (ec.2 ⟨by omega, cp, cq, by omega⟩)]
    exact ⟨rfl, rfl, rfl⟩
set_option maxRecDepth 10000 in
theorem m_at (H : mHp hh m P cm cX cY cZ cD) (x y : Int) (hx : R3 x) (hy : R3 y) : xCall xmX6_at 100 0 0 [.ref 64, zI x, zI y] n hh (mPo hh m P cm cX cY cZ cD n (zI (if 0 < (blF P m).1 then (if (0 ≤ x ∧ x < (blF P m).1) ∧ 0 ≤ y ∧ y < fLen P m x.toNat then (fRow P m x.toNat y.toNat : Int) else -1) else -3))) := by
  obtain ⟨fs, hq⟩ := H.at
  refine xCall.of xgX6_at rfl ?_
  refine tt_op rfl rfl ?_
  refine tt_callV (M' := xmX6_noSolid) rfl rfl rfl hq rfl (m_noSolid H) ?_
  rintro res n' h' ⟨rfl, h64, ⟨hF, rfl, hM⟩ | ⟨hF, rfl, hM⟩⟩
  · rw [if_neg hF]
    refine z_if rfl (by first | assumption | (unfold R3; omega)) (fun c => absurd c (by simp only [zcd] <;> omega)) (fun c => ?_)
    refine tt_op rfl rfl ?_
    refine tt_ireturn rfl rfl (by rfl) (Nat.le_of_ble_eq_true rfl) (Nat.le_of_ble_eq_true rfl) ?_
    exact ⟨rfl, h64, hM, rfl⟩
  · rw [if_pos hF]
    have hM' := hM.hp
    obtain ⟨h, tb, fl, co, fa, fb, fs, fr, nn, lv, a, fat, w, su, sv, tu, im, rk, ba, go, rfl, hI, hS⟩ := hM
    obtain ⟨_, _, _, hA, _, _, hmt, hrn⟩ := SF_u hS
    have h24 : fa ≤ 24 := hA.1
    have e : fa = (blF P m).1 := hmt.1
    refine z_if rfl (by first | assumption | (unfold R3; omega)) (fun c => ?_) (fun c => absurd (by simp only [zcd] <;> omega) c)
    refine tt_op rfl rfl ?_
    refine tt_op rfl rfl ?_
    refine tt_op rfl rfl ?_
    refine tt_get rfl md64 (by rfl) ?_
    refine tt_op rfl rfl ?_
    refine z_isub rfl ?_
    refine tt_pS rfl rfl rfl rfl (m_in x 0 ((fa : Int) - 1) hx ⟨by omega, by omega⟩ ⟨by omega, by omega⟩ _ _) ?_
    by_cases hi : 0 ≤ x ∧ x ≤ (fa : Int) - 1
    · rw [if_pos hi]
      obtain ⟨j, rfl⟩ : ∃ j : Nat, x = j := ⟨x.toNat, by omega⟩
      obtain ⟨k1, _, _, k4, k5⟩ := hmt.2 j (by omega)
      have k6 := (hrn (fat j) k1).1
      rw [Int.toNat_natCast]
      refine z_if rfl (by first | assumption | (unfold R3; omega)) (fun c => absurd c (by simp only [zcd] <;> omega)) (fun c => ?_)
      refine tt_op rfl rfl ?_
      refine tt_op rfl rfl ?_
      refine tt_op rfl rfl ?_
      refine tt_get rfl md64 (by rfl) ?_
      refine tt_op rfl rfl ?_
      refine tt_get rfl md64 (by rfl) ?_
      refine tt_op rfl rfl ?_
      refine z_iald rfl md75 rfl (by omega) (by decide) ?_
      refine z_iald rfl md69 rfl (by omega) (by decide) ?_
      refine tt_op rfl rfl ?_
      refine z_isub rfl ?_
      rw [k4] at k6 ⊢
      refine tt_pS rfl rfl rfl rfl (m_in y 0 ((fLen P m j : Int) - 1) hy ⟨by omega, by omega⟩ ⟨by omega, by omega⟩ _ _) ?_
      by_cases hi2 : 0 ≤ y ∧ y ≤ (fLen P m j : Int) - 1
      · rw [if_pos hi2, if_pos (by omega)]
        obtain ⟨k, rfl⟩ : ∃ k : Nat, y = k := ⟨y.toNat, by omega⟩
        have k7 := k5 k (by omega)
        refine z_if rfl (by first | assumption | (unfold R3; omega)) (fun c => absurd c (by simp only [zcd] <;> omega)) (fun c => ?_)
        refine tt_op rfl rfl ?_
        refine tt_get rfl md64 (by rfl) ?_
        refine tt_op rfl rfl ?_
        refine tt_op rfl rfl ?_
        refine tt_get rfl md64 (by rfl) ?_
        refine tt_op rfl rfl ?_
        refine z_iald rfl md75 rfl (by omega) (by decide) ?_
        refine z_imul rfl ?_
        refine tt_op rfl rfl ?_
        refine z_iadd rfl ?_
        refine z_iald (j := 14 * fat j + k) rfl md70 (by omega) (by omega) (by decide) ?_
        refine tt_goto rfl ?_
        refine tt_ireturn rfl rfl (by rfl) (Nat.le_of_ble_eq_true rfl) (Nat.le_of_ble_eq_true rfl) ?_
        refine ⟨rfl, h64, hM', ?_⟩
        rw [k7]; rfl
      · rw [if_neg hi2, if_neg (by omega)]
        refine z_if rfl (by first | assumption | (unfold R3; omega)) (fun c => ?_) (fun c => absurd (by simp only [zcd] <;> omega) c)
        refine tt_op rfl rfl ?_
        refine tt_ireturn rfl rfl (by rfl) (Nat.le_of_ble_eq_true rfl) (Nat.le_of_ble_eq_true rfl) ?_
        exact ⟨rfl, h64, hM', rfl⟩
    · rw [if_neg hi, if_neg (by omega)]
      refine z_if rfl (by first | assumption | (unfold R3; omega)) (fun c => ?_) (fun c => absurd (by simp only [zcd] <;> omega) c)
      refine tt_op rfl rfl ?_
      refine tt_ireturn rfl rfl (by rfl) (Nat.le_of_ble_eq_true rfl) (Nat.le_of_ble_eq_true rfl) ?_
      exact ⟨rfl, h64, hM', rfl⟩
set_option maxRecDepth 10000 in
theorem m_normal (H : mHp hh m P cm cX cY cZ cD) (x y : Int) (hx : R3 x) (hy : R3 y) : xCall xmX6_normal 100 0 0 [.ref 64, zI x, zI y] n hh (mPo hh m P cm cX cY cZ cD n (zJ (if 0 < (blF P m).1 ∧ 0 ≤ x ∧ x < (blF P m).1 then nmW ((blF P m).2 x.toNat) y else -1000000000000))) := by
  obtain ⟨fs, hq⟩ := H.at
  refine xCall.of xgX6_normal rfl ?_
  refine tt_op rfl rfl ?_
  refine tt_callV (M' := xmX6_noSolid) rfl rfl rfl hq rfl (m_noSolid H) ?_
  rintro res n' h' ⟨rfl, h64, ⟨hF, rfl, hM⟩ | ⟨hF, rfl, hM⟩⟩
  · rw [if_neg (fun e => hF e.1)]
    refine z_if rfl (by first | assumption | (unfold R3; omega)) (fun c => ?_) (fun c => absurd (by simp only [zcd] <;> omega) c)
    refine tt_op rfl rfl ?_
    refine tt_lreturn rfl rfl (Nat.le_of_ble_eq_true rfl) (Nat.le_of_ble_eq_true rfl) ?_
    exact ⟨rfl, h64, hM, rfl⟩
  · have hM' := hM.hp
    obtain ⟨h, tb, fl, co, fa, fb, fs, fr, nn, lv, a, fat, w, su, sv, tu, im, rk, ba, go, rfl, hI, hS⟩ := hM
    obtain ⟨_, _, _, hA, _, hbd, hmt, hrn⟩ := SF_u hS
    have h24 : fa ≤ 24 := hA.1
    have e : fa = (blF P m).1 := hmt.1
    refine z_if rfl (by first | assumption | (unfold R3; omega)) (fun c => absurd c (by simp only [zcd] <;> omega)) (fun c => ?_)
    refine tt_op rfl rfl ?_
    refine tt_op rfl rfl ?_
    refine tt_op rfl rfl ?_
    refine tt_get rfl md64 (by rfl) ?_
    refine tt_op rfl rfl ?_
    refine z_isub rfl ?_
    refine tt_pS rfl rfl rfl rfl (m_in x 0 ((fa : Int) - 1) hx ⟨by omega, by omega⟩ ⟨by omega, by omega⟩ _ _) ?_
    by_cases hi : 0 ≤ x ∧ x ≤ (fa : Int) - 1
    rotate_left
    · rw [if_neg hi, if_neg (by omega)]
      refine z_if rfl (by first | assumption | (unfold R3; omega)) (fun c => ?_) (fun c => absurd (by simp only [zcd] <;> omega) c)
      refine tt_op rfl rfl ?_
      refine tt_lreturn rfl rfl (Nat.le_of_ble_eq_true rfl) (Nat.le_of_ble_eq_true rfl) ?_
      exact ⟨rfl, h64, hM', rfl⟩
    rw [if_pos hi, if_pos (by omega)]
    obtain ⟨j, rfl⟩ : ∃ j : Nat, x = j := ⟨x.toNat, by omega⟩
    obtain ⟨k1, k2, k3, k4, k5⟩ := hmt.2 j (by omega)
    rw [Int.toNat_natCast]
    obtain ⟨⟨v1, v2⟩, ⟨v3, v4⟩, v5, v6⟩ := hbd.2.1 (fat j) (by omega)
    obtain ⟨v7, v8⟩ := hbd.2.2.1 (fat j) (by omega)
    refine z_if rfl (by first | assumption | (unfold R3; omega)) (fun c => absurd c (by simp only [zcd] <;> omega)) (fun c => ?_)
    refine tt_op rfl rfl ?_
    refine tt_op rfl rfl ?_
    refine tt_op rfl rfl ?_
    refine tt_pS rfl rfl rfl rfl (m_in y 0 3 hy ⟨by decide, by decide⟩ ⟨by decide, by decide⟩ _ _) ?_
    by_cases hy3 : 0 ≤ y ∧ y ≤ 3
    rotate_left
    · rw [if_neg hy3]
      refine z_if rfl (by first | assumption | (unfold R3; omega)) (fun c => absurd c (by simp only [zcd] <;> omega)) (fun c => ?_)
      refine tt_op rfl rfl ?_
      refine tt_lreturn rfl rfl (Nat.le_of_ble_eq_true rfl) (Nat.le_of_ble_eq_true rfl) ?_
      refine ⟨rfl, h64, hM', ?_⟩
      unfold nmW
      rw [if_neg (by omega), if_neg (by omega), if_neg (by omega), if_neg (by omega)]
    rw [if_pos hy3]
    refine z_if rfl (by first | assumption | (unfold R3; omega)) (fun c => ?_) (fun c => absurd (by simp only [zcd] <;> omega) c)
    refine tt_op rfl rfl ?_
    refine tt_get rfl md64 (by rfl) ?_
    refine tt_op rfl rfl ?_
    refine z_iald rfl md75 rfl (by omega) (by decide) ?_
    refine tt_op rfl rfl ?_
    refine tt_op rfl rfl ?_
    unfold nmW
    refine z_if rfl (by first | assumption | (unfold R3; omega)) (fun c0 => ?_) (fun c0 => ?_)
    · simp only [zcd] at c0
      rw [if_neg c0]
      refine tt_op rfl rfl ?_
      refine tt_op rfl rfl ?_
      refine z_icmp rfl (by first | assumption | (unfold R3; omega)) (by first | assumption | (unfold R3; omega)) (fun c1 => ?_) (fun c1 => ?_)
      · simp only [zcd] at c1
        rw [if_neg (by omega)]
        refine tt_op rfl rfl ?_
        refine tt_op rfl rfl ?_
        refine z_icmp rfl (by first | assumption | (unfold R3; omega)) (by first | assumption | (unfold R3; omega)) (fun c2 => ?_) (fun c2 => ?_)
        · simp only [zcd] at c2
          rw [if_neg (by omega), if_pos (by omega), ← k3]
          refine tt_op rfl rfl ?_
          refine tt_get rfl md64 (by rfl) ?_
          refine tt_op rfl rfl ?_
          refine z_iald rfl md74 rfl (by omega) (by decide) ?_
          refine z_il rfl (by first | assumption | (unfold R3; omega)) ?_
          refine tt_lreturn rfl rfl (Nat.le_of_ble_eq_true rfl) (Nat.le_of_ble_eq_true rfl) ?_
          exact ⟨rfl, h64, hM', rfl⟩
        · simp only [zcd] at c2
          rw [if_pos (by omega), ← k2]
          refine tt_op rfl rfl ?_
          refine tt_get rfl md64 (by rfl) ?_
          refine tt_op rfl rfl ?_
          refine z_iald rfl md73 rfl (by omega) (by decide) ?_
          refine z_il rfl (by first | assumption | (unfold R3; omega)) ?_
          refine tt_goto rfl ?_
          refine tt_lreturn rfl rfl (Nat.le_of_ble_eq_true rfl) (Nat.le_of_ble_eq_true rfl) ?_
          exact ⟨rfl, h64, hM', rfl⟩
      · simp only [zcd] at c1
        rw [if_pos (by omega), ← k2]
        refine tt_op rfl rfl ?_
        refine tt_get rfl md64 (by rfl) ?_
        refine tt_op rfl rfl ?_
        refine z_iald rfl md72 rfl (by omega) (by decide) ?_
        refine z_il rfl (by first | assumption | (unfold R3; omega)) ?_
        refine tt_goto rfl ?_
        refine tt_lreturn rfl rfl (Nat.le_of_ble_eq_true rfl) (Nat.le_of_ble_eq_true rfl) ?_
        exact ⟨rfl, h64, hM', rfl⟩
    · simp only [zcd] at c0
      rw [if_pos (by omega), ← k2]
      refine tt_op rfl rfl ?_
      refine tt_get rfl md64 (by rfl) ?_
      refine tt_op rfl rfl ?_
      refine z_iald rfl md71 rfl (by omega) (by decide) ?_
      refine z_il rfl (by first | assumption | (unfold R3; omega)) ?_
      refine tt_goto rfl ?_
      refine tt_lreturn rfl rfl (Nat.le_of_ble_eq_true rfl) (Nat.le_of_ble_eq_true rfl) ?_
      exact ⟨rfl, h64, hM', rfl⟩
end M5
