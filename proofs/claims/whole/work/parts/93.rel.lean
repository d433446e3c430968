/-! Class and reference side by side -/
theorem xCall.mono {M : xM} {d mc ms : Nat} {av : List Value} {n : Nat} {h : xHp} {Q Q' : xQt} (hC : xCall M d mc ms av n h Q) (hq : ∀ r n h, Q r n h → Q' r n h) : xCall M d mc ms av n h Q' := fun l g =>
  MetFree.mono (hC l g) (fun _ _ h => h) (fun _ _ _ _ _ h => h) (fun _ _ _ _ _ z => by
    obtain ⟨⟨⟨r, n', h', e1, e2, e3⟩, hF⟩, b⟩ := z
    exact ⟨⟨⟨r, n', h', e1, hq _ _ _ e2, e3⟩, hF⟩, b⟩)
theorem int_zI (a : Int32) : Value.int a = zI a.toInt := by rw [zI, z3_of]
section RE
variable {h h' : xHp} {m : Nat} {P : Nat → V3} {c : Nat × (Nat → Int)} {s : St} {cm : Int} {cX cY cZ cD : Nat → Int}
theorem xSt_lo (H : xSt h m P c s) (e : ∀ j, j < 64 → h' j = h j) : xSt h' m P c s := by
  obtain ⟨h0, ⟨c1, c2, c3, c4, c5⟩, ⟨u5, uF, ⟨ad, f, ⟨⟨rd, g6, grd⟩, gA, gI, gC, gV⟩, hfe⟩, ⟨b, u7, ub⟩, mo, u8, umo⟩, ⟨h57, h58, hc⟩, ⟨hmo, hs⟩, d, lv, se, me, le, row, h62, h63⟩ := H
  obtain ⟨h59, h60, h61⟩ := moH_of hmo
  refine ⟨by rw [e 0 (by omega)]; exact h0, ⟨by rw [e 1 (by omega)]; exact c1, by rw [e 2 (by omega)]; exact c2, by rw [e 3 (by omega)]; exact c3, by rw [e 4 (by omega)]; exact c4, c5⟩, ⟨by rw [e 5 (by omega)]; exact u5, uF, ⟨ad, f, ⟨⟨rd, by rw [e 6 (by omega)]; exact g6, grd⟩, gA, gI, fun i hi => ?_, gV⟩, hfe⟩, ⟨b, by rw [e 7 (by omega)]; exact u7, ub⟩, mo, by rw [e 8 (by omega)]; exact u8, umo⟩, ⟨by rw [e 57 (by omega)]; exact h57, by rw [e 58 (by omega)]; exact h58, hc⟩, ⟨moH_self (by rw [e 59 (by omega)]; exact h59) (by rw [e 60 (by omega)]; exact h60) (by rw [e 61 (by omega)]; exact h61), hs⟩, d, lv, se, me, le, row, by rw [e 62 (by omega)]; exact h62, by rw [e 63 (by omega)]; exact h63⟩
  have := gA i hi
  rw [e _ (by omega), e _ (by omega)]
  exact gC i hi
theorem mHp_hi (H : mHp h m P cm cX cY cZ cD) (e : ∀ j, 64 ≤ j → h' j = h j) : mHp h' m P cm cX cY cZ cD := by
  obtain ⟨h, bu, tb, fl, co, fa, fb, fs, fr, nn, lv, a, fat, w, su, sv, tu, im, rk, ba, go, rfl, hI⟩ := H
  refine ⟨h', bu, tb, fl, co, fa, fb, fs, fr, nn, lv, a, fat, w, su, sv, tu, im, rk, ba, go, funext fun j => ?_, hI⟩
  by_cases hj : j < 64
  · exact (md_lo hj).symm
  by_cases hk : j < 86
  · rw [e j (by omega)]
    unfold mdH
    repeat (refine ite_congr rfl (fun _ => rfl) (fun _ => ?_))
    exfalso
    omega
  · unfold mdH
    repeat rw [if_neg (by omega)]
/-- the turns, listed once and in order -/
def srt (P : Nat → V3) (m N : Nat) (im : Nat → Nat → Nat) : Prop := SyL P m N im ∧ ∀ i j, i < j → j < N → lxl (isCor P m) (im i) (im j)
def sG (P : Nat → V3) (m : Nat) (s : St) : Prop := s.1 = 0 ∨ srt P m s.1 (imF s)
theorem lsS_ok (hm : m ≤ 14) (hb : pbd P) (hD : Dis P m) (hF : 0 < (blF P m).1) (hG : sG P m s) : srt P m (lsS P m s).1 (imF (lsS P m s)) := by
  have hb' : ∀ j, j < m → vbd 20 (P j) := fun j hj => hb j (by omega)
  have hs := (blF_sol hm hb' hD).1 hF
  unfold lsS
  by_cases h0 : s.1 = 0
  · rw [if_pos h0]
    have := exR_spec hm hb' hD hs (hCB_spec hm hb' hD hs) s.2
    exact ⟨this.1, this.2.2⟩
  · rw [if_neg h0]
    exact hG.resolve_left h0
/-- what the cells of both hold between two calls -/
def RelA (h : xHp) (m : Nat) (P : Nat → V3) (c : Nat × (Nat → Int)) (s : St) (cm : Int) (cX cY cZ cD : Nat → Int) : Prop :=
  xSt h m P c s ∧ Dis P m ∧ sG P m s ∧ mHp h m P cm cX cY cZ cD ∧ ((cm = -1 ∧ c.1 = 0) ∨ cm = (c.1 : Int)) ∧ agr c cX cY cZ cD ∧ posS c
def Rel (h : xHp) : Prop := ∃ m P c s cm cX cY cZ cD, RelA h m P c s cm cX cY cZ cD
theorem RelA.lo (R : RelA h m P c s cm cX cY cZ cD) (e : ∀ j, j < 64 → h' j = h j) (hM : mHp h' m P cm cX cY cZ cD) : Rel h' := ⟨m, P, c, s, cm, cX, cY, cZ, cD, xSt_lo R.1 e, R.2.1, R.2.2.1, hM, R.2.2.2.2⟩
theorem RelA.hi {s' : St} (R : RelA h m P c s cm cX cY cZ cD) (e : ∀ j, 64 ≤ j → h' j = h j) (hS : xSt h' m P c s') (hG : sG P m s') : RelA h' m P c s' cm cX cY cZ cD := ⟨hS, R.2.1, hG, mHp_hi R.2.2.2.1 e, R.2.2.2.2⟩
theorem RelA.p (R : RelA h m P c s cm cX cY cZ cD) : m ≤ 14 ∧ pbd P ∧ ∀ j, j < m → vbd 20 (P j) := ⟨R.1.2.1.2.2.2.2.1, R.1.2.1.2.2.2.2.2, fun j hj => R.1.2.1.2.2.2.2.2 j (by have := R.1.2.1.2.2.2.2.1; omega)⟩
theorem RelA.srt (R : RelA h m P c s cm cX cY cZ cD) (hF : 0 < (blF P m).1) : srt P m (lsS P m s).1 (imF (lsS P m s)) := lsS_ok R.p.1 R.p.2.1 R.2.1 hF R.2.2.1
/-- a corner off the first face -/
theorem turn4 (R : RelA h m P c s cm cX cY cZ cD) (hF : 0 < (blF P m).1) : 0 < bdf (hCB P m) ((blF P m).2 0).2.2.1 ∧ 3 ≤ fLen P m 0 ∧ g4 P m (fRow P m 0 0) (fRow P m 0 1) (fRow P m 0 2) (tz (bdf (hCB P m) ((blF P m).2 0).2.2.1)) := by
  obtain ⟨hm, hb, hb'⟩ := R.p
  have hD := R.2.1
  have hs := (blF_sol hm hb' hD).1 hF
  obtain ⟨f1, f2, f3, f4⟩ := (blF_spec hm hb' hD).1.2.1 0 hF
  obtain ⟨v, cv, hv⟩ := max_cor hm hD hs (-((blF P m).2 0).1.1, -((blF P m).2 0).1.2.1, -((blF P m).2 0).1.2.2)
  obtain ⟨k, hk, k1⟩ := f1.2.2.1
  have h1 := hv k hk
  have nv : ¬ fA P m ((blF P m).2 0).1 ((blF P m).2 0).2.1 v := by
    intro q
    have := q.2
    simp only [dot, Int.neg_mul] at h1 k1 this
    omega
  have hbit : ∀ j, (bdf (hCB P m) ((blF P m).2 0).2.2.1).testBit j = true ↔ isCor P m j ∧ ¬ fA P m ((blF P m).2 0).1 ((blF P m).2 0).2.1 j := by
    intro j
    rw [bdf_bit, Bool.and_eq_true, hCB_spec hm hb' hD hs, ← f2 j]
    simp
  have bv := (hbit v).2 ⟨cv, nv⟩
  have tt := tz_spec (S := bdf (hCB P m) ((blF P m).2 0).2.2.1) (j := v) ⟨by have := cv.1; omega, bv⟩
  obtain ⟨ct, nt⟩ := (hbit _).1 tt.1.2
  have l3 := f3.1.1
  have ex := f3.2.1
  have ne : dot ((blF P m).2 0).1 (P (tz (bdf (hCB P m) ((blF P m).2 0).2.2.1))) - ((blF P m).2 0).2.1 ≠ 0 := fun e => nt ⟨ct.1, by omega⟩
  have n0 := rnd_012 hD f1 f3
  have n1 : swg P (fRow P m 0 0) (fRow P m 0 1) (fRow P m 0 2) ((blF P m).2 0).1 ≠ 0 := fun e => n0 ((F_nc f1 (ex 0 (by omega)).1 (ex 1 (by omega)).1 (ex 2 (by omega)).1).1 e)
  refine ⟨Nat.pos_of_ne_zero fun e => by rw [e, Nat.zero_testBit] at bv; exact absurd bv (by decide), l3, cor_of hD f1 (ex 0 (by omega)), cor_of hD f1 (ex 1 (by omega)), cor_of hD f1 (ex 2 (by omega)), ct, fun e => ?_⟩
  have b := bxs_side (ex 0 (by omega)).1 (ex 1 (by omega)).1 (ex 2 (by omega)).1 (tz (bdf (hCB P m) ((blF P m).2 0).2.2.1))
  rw [e, Int.mul_zero] at b
  exact Int.mul_ne_zero n1 ne b.symm
theorem cb_pos (R : RelA h m P c s cm cX cY cZ cD) (hF : 0 < (blF P m).1) : 0 < hCB P m := by
  obtain ⟨hm, hb, hb'⟩ := R.p
  have hs := (blF_sol hm hb' R.2.1).1 hF
  obtain ⟨a, b, ct, _⟩ := turn4 R hF
  refine Nat.pos_of_ne_zero fun e => ?_
  have := (hCB_spec hm hb' R.2.1 hs _).2 ct
  rw [e, Nat.zero_testBit] at this
  exact absurd this (by decide)
theorem same_mPo {α : Type} {mk : α → Value} {MC MM : xM} {av : List Value} {N : Nat} {Qc : xQt} (hC : xCall MC 100 0 0 (.ref 0 :: av) N h Qc)
    (k : ∀ r n' h', Qc r n' h' → n' = N ∧ ∃ v m P c s cm cX cY cZ cD, RelA h' m P c s cm cX cY cZ cD ∧ r = some (mk v) ∧ xCall MM 100 0 0 (.ref 64 :: av) N h' (mPo h' m P cm cX cY cZ cD N (mk v))) : xSame MC MM mk Rel N av h := by
  refine hC.mono fun r n' h' q => ?_
  obtain ⟨rfl, v, m, P, c, s, cm, cX, cY, cZ, cD, R, rfl, hM⟩ := k r n' h' q
  exact ⟨rfl, R.2.2.2.1.at, v, rfl, hM.mono fun r2 n2 h2 q2 => ⟨q2.2.2.2, q2.1, R.lo q2.2.1 q2.2.2.1⟩⟩
theorem same_pure {α : Type} {mk : α → Value} {MC MM : xM} {av : List Value} {N : Nat} {v : α} (R : RelA h m P c s cm cX cY cZ cD) (hC : xPure MC 100 (.ref 0 :: av) N h (mk v)) (hM : xCall MM 100 0 0 (.ref 64 :: av) N h (mPo h m P cm cX cY cZ cD N (mk v))) : xSame MC MM mk Rel N av h := by
  refine same_mPo hC ?_
  rintro r n' h' ⟨rfl, rfl, rfl⟩
  exact ⟨rfl, v, m, P, c, s, cm, cX, cY, cZ, cD, R, rfl, hM⟩
end RE
