/-! One plane more -/
def nup {α : Type} (f : Nat → α) (k : Nat) (v : α) : Nat → α := fun j => if j = k then v else f j
theorem nup_s {α : Type} {f : Nat → α} {k : Nat} {v : α} : nup f k v k = v := by simp [nup]
theorem nup_n {α : Type} {f : Nat → α} {k j : Nat} {v : α} (h : j ≠ k) : nup f k v j = f j := by simp [nup, h]
def trN (P : Nat → V3) (d : V3) (S st : Nat) : Nat → Nat → Nat → (Nat → Nat) → Nat → (Nat → Nat) × Nat × Nat
  | 0, s, _, row, me => (row, me, s)
  | k + 1, s, p, row, me => if spr P st (flF P d S p) d = 0 then (nup row s p, me ||| 2 ^ p, s + 1) else trN P d S st k (s + 1) (flF P d S p) (nup row s p) (me ||| 2 ^ p)
theorem zup_nup (row : Nat → Nat) (s p : Nat) : zup (fun j => (row j : Int)) s (p : Int) = fun j => ((nup row s p j : Nat) : Int) := by
  funext j
  by_cases h : j = s
  · simp [zup, nup, h]
  · simp [zup, nup, h]
theorem trN_eq (P : Nat → V3) (d : V3) (S st : Nat) : ∀ (k s p : Nat) (row : Nat → Nat) (me : Nat), trR P d S st k s p (fun j => (row j : Int)) me = (fun j => ((trN P d S st k s p row me).1 j : Int), (trN P d S st k s p row me).2.1, (trN P d S st k s p row me).2.2)
  | 0, s, p, row, me => rfl
  | k + 1, s, p, row, me => by
    unfold trR trN
    split
    · rw [zup_nup]
    · rw [zup_nup, trN_eq P d S st k]
theorem bits_or {a b : Nat} (ha : a < 16384) (hb : b < 16384) : a ||| b < 16384 := Nat.or_lt_two_pow (n := 14) ha hb
theorem bits_pow {p : Nat} (hp : p < 14) : 2 ^ p < 16384 := Nat.pow_lt_pow_right (a := 2) (by decide) hp
theorem trN_ok (P : Nat → V3) (d : V3) (S st : Nat) : ∀ (k s p : Nat) (row : Nat → Nat) (me : Nat), s + k = 14 → p < 14 → me < 16384 → (∀ j, j < 14 → row j < 14) → (trN P d S st k s p row me).2.1 < 16384 ∧ (trN P d S st k s p row me).2.2 ≤ 14 ∧ (∀ j, j < 14 → (trN P d S st k s p row me).1 j < 14) ∧ (∀ j, me.testBit j = true → (trN P d S st k s p row me).2.1.testBit j = true) ∧ (0 < k → (trN P d S st k s p row me).2.1.testBit p = true)
  | 0, s, p, row, me, hs, hp, hm, hr => ⟨hm, show s ≤ 14 by omega, hr, fun _ h => h, fun h => absurd h (by omega)⟩
  | k + 1, s, p, row, me, hs, hp, hm, hr => by
    have hm' : me ||| 2 ^ p < 16384 := bits_or hm (bits_pow hp)
    have hr' : ∀ j, j < 14 → nup row s p j < 14 := fun j hj => by
      unfold nup
      split
      · exact hp
      · exact hr j hj
    unfold trN
    split
    · refine ⟨hm', by show s + 1 ≤ 14; omega, hr', fun j hj => ?_, fun _ => ?_⟩
      · show (me ||| 2 ^ p).testBit j = true
        rw [Nat.testBit_or, hj]; rfl
      · show (me ||| 2 ^ p).testBit p = true
        rw [Nat.testBit_or, Nat.testBit_two_pow_self, Bool.or_true]
    · obtain ⟨a1, a2, a3, a4, a5⟩ := trN_ok P d S st k (s + 1) (flF P d S p) (nup row s p) (me ||| 2 ^ p) (by omega) (flF_lt hp) hm' hr'
      refine ⟨a1, a2, a3, fun j hj => a4 j ?_, fun _ => a4 p ?_⟩
      · rw [Nat.testBit_or, hj]; rfl
      · rw [Nat.testBit_or, Nat.testBit_two_pow_self, Bool.or_true]
/-- what stands in the row beforehand doesn't count -/
theorem trN_row (P : Nat → V3) (d : V3) (S st : Nat) : ∀ (k s p : Nat) (row row' : Nat → Nat) (me : Nat), (∀ j, j < s → row j = row' j) → (trN P d S st k s p row me).2 = (trN P d S st k s p row' me).2 ∧ ∀ j, j < (trN P d S st k s p row me).2.2 → (trN P d S st k s p row me).1 j = (trN P d S st k s p row' me).1 j
  | 0, s, p, row, row', me, hr => ⟨rfl, hr⟩
  | k + 1, s, p, row, row', me, hr => by
    have hr' : ∀ j, j < s + 1 → nup row s p j = nup row' s p j := fun j hj => by
      unfold nup
      split
      · rfl
      · exact hr j (by omega)
    unfold trN
    split
    · exact ⟨rfl, hr'⟩
    · exact trN_row P d S st k (s + 1) _ _ _ _ hr'
/-- the points taken as seen -/
theorem sdR_seen (P : Nat → V3) (d : V3) (lv : Int) : ∀ (k i s w : Nat), s < 4 → (sdR P d lv k i s w).1 ≠ 3 → ∀ j, (sdR P d lv k i s w).2.testBit j = (w.testBit j || decide (i ≤ j ∧ j < i + k ∧ dot d (P j) - lv = 0))
  | 0, i, s, w, hs, h3, j => by
    show w.testBit j = _
    rw [show decide (i ≤ j ∧ j < i + 0 ∧ dot d (P j) - lv = 0) = false from decide_eq_false (by omega), Bool.or_false]
  | k + 1, i, s, w, hs, h3, j => by
    unfold sdR at h3 ⊢
    by_cases c1 : s = 3
    · rw [if_pos c1] at h3; exact absurd c1 h3
    rw [if_neg c1] at h3 ⊢
    by_cases c2 : dot d (P i) - lv = 0
    · rw [if_pos c2] at h3 ⊢
      rw [sdR_seen P d lv k (i + 1) s _ hs h3 j, Nat.testBit_or, Nat.testBit_two_pow]
      by_cases hj : i = j
      · subst hj
        simp [c2]
      · rw [show (decide (i = j)) = false from decide_eq_false hj, Bool.or_false]
        congr 1
        apply decide_eq_decide.mpr
        omega
    · rw [if_neg c2] at h3 ⊢
      rw [sdR_seen P d lv k (i + 1) _ w (by split; exact (or_lt4 s hs).1; exact (or_lt4 s hs).2) h3 j]
      congr 1
      apply decide_eq_decide.mpr
      constructor
      · rintro ⟨a1, a2, a3⟩; exact ⟨by omega, by omega, a3⟩
      · rintro ⟨a1, a2, a3⟩
        refine ⟨?_, by omega, a3⟩
        rcases Nat.lt_or_ge i j with q | q
        · omega
        · exact absurd a3 (by rw [show j = i by omega]; exact c2)
theorem sdR_w (P : Nat → V3) (d : V3) (lv : Int) : ∀ (k i s w : Nat), i + k ≤ 14 → w < 16384 → (sdR P d lv k i s w).2 < 16384
  | 0, i, s, w, hi, hw => hw
  | k + 1, i, s, w, hi, hw => by
    unfold sdR
    split
    · exact hw
    · split
      · exact sdR_w P d lv k (i + 1) s _ (by omega) (bits_or hw (bits_pow (by omega)))
      · exact sdR_w P d lv k (i + 1) _ w (by omega) hw
theorem fcS_pos {P : Nat → V3} {m p q r : Nat} (hp : p < m) (hok : fcOk P m p q r) : 0 < (fcS P m p q r).2 := by
  have h3 : (fcS P m p q r).1 ≠ 3 := by have := hok.2; omega
  have := sdR_seen P (prim (nrm P p q r)) (dot (prim (nrm P p q r)) (P p)) m 0 0 0 (by decide) h3 p
  rw [show decide (0 ≤ p ∧ p < 0 + m ∧ dot (prim (nrm P p q r)) (P p) - dot (prim (nrm P p q r)) (P p) = 0) = true from decide_eq_true ⟨by omega, by omega, by omega⟩, Bool.or_true] at this
  rcases Nat.eq_zero_or_pos (fcS P m p q r).2 with z | z
  · unfold fcS at z
    rw [z, Nat.zero_testBit] at this
    cases this
  · exact z
/-- a new face's data -/
def nfT (P : Nat → V3) (d : V3) (S : Nat) (row : Nat → Nat) : (Nat → Nat) × Nat × Nat := trN P d S (tz (trN P d S (rmF P d S) 14 0 (rmF P d S) row 0).2.1) 14 0 (tz (trN P d S (rmF P d S) 14 0 (rmF P d S) row 0).2.1) (trN P d S (rmF P d S) 14 0 (rmF P d S) row 0).1 0
def nfD (P : Nat → V3) (m p q r : Nat) (row : Nat → Nat) : FD := (fcD P m p q r, fcL P m p q r, (fcS P m p q r).2, (nfT P (fcD P m p q r) (fcS P m p q r).2 row).2.1, (nfT P (fcD P m p q r) (fcS P m p q r).2 row).2.2, (nfT P (fcD P m p q r) (fcS P m p q r).2 row).1)
theorem rmR_lt {P : Nat → V3} {d : V3} {S fr : Nat} : ∀ (k i b : Nat) (w : Int), i + k = 14 → b < 14 → rmR P d S fr k i b w < 14
  | 0, i, b, w, hi, hb => hb
  | k + 1, i, b, w, hi, hb => by
    unfold rmR
    split
    · exact rmR_lt k (i + 1) i _ (by omega) (by omega)
    · exact rmR_lt k (i + 1) b w (by omega) hb
theorem rmF_lt {P : Nat → V3} {d : V3} {S : Nat} (hS : S < 16384) (h0 : 0 < S) : rmF P d S < 14 := rmR_lt 14 0 _ _ rfl (tz_lt hS h0)
theorem bit_pos {w j : Nat} (h : w.testBit j = true) : 0 < w := by
  rcases Nat.eq_zero_or_pos w with z | z
  · rw [z, Nat.zero_testBit] at h; cases h
  · exact z
theorem nfT_ok {P : Nat → V3} {d : V3} {S : Nat} {row : Nat → Nat} (hS : S < 16384) (h0 : 0 < S) (hr : ∀ j, j < 14 → row j < 14) : (0 < (trN P d S (rmF P d S) 14 0 (rmF P d S) row 0).2.1 ∧ (trN P d S (rmF P d S) 14 0 (rmF P d S) row 0).2.1 < 16384) ∧ (nfT P d S row).2.1 < 16384 ∧ (nfT P d S row).2.2 ≤ 14 ∧ ∀ j, j < 14 → (nfT P d S row).1 j < 14 := by
  obtain ⟨a1, a2, a3, a4, a5⟩ := trN_ok P d S (rmF P d S) 14 0 (rmF P d S) row 0 rfl (rmF_lt hS h0) (by decide) hr
  have hpos := bit_pos (a5 (by decide))
  obtain ⟨b1, b2, b3, -, -⟩ := trN_ok P d S (tz (trN P d S (rmF P d S) 14 0 (rmF P d S) row 0).2.1) 14 0 (tz (trN P d S (rmF P d S) 14 0 (rmF P d S) row 0).2.1) (trN P d S (rmF P d S) 14 0 (rmF P d S) row 0).1 0 rfl (tz_lt a1 hpos) (by decide) a3
  exact ⟨⟨hpos, a1⟩, b1, b2, b3⟩
theorem fcD_bd {P : Nat → V3} {m p q r : Nat} (hb : pbd P) (hp : p < 14) (hq : q < 14) (hr : r < 14) : vbd 3200 (fcD P m p q r) ∧ -1000000 ≤ fcL P m p q r ∧ fcL P m p q r ≤ 1000000 := by
  have h1 := prim_bd (nrm_bd hb hp hq hr)
  have h2 := dot_bd h1 (hb p hp)
  unfold fcD fcL
  split
  · refine ⟨?_, by omega, by omega⟩
    unfold vbd vneg at *
    dsimp only
    omega
  · exact ⟨h1, by omega, by omega⟩
/-- a cell of an outline, and its row, are written -/
theorem xHf_put {h : xHp} {ad : Nat → Nat} {f : Nat → FD} {F : Nat} (hF : F < 24) (H : xHf h ad f) (x : FD) (hx : fdV x) : xHf (xup (xup h (ad F + 1) (fdA x)) (ad F) (fdC x (ad F + 1))) ad (nup f F x) := by
  obtain ⟨⟨rd, h6, hrd⟩, hA, hI, hC, hV⟩ := H
  have hAF := hA F hF
  refine ⟨⟨rd, ?_, hrd⟩, hA, hI, fun i hi => ?_, fun i hi => ?_⟩
  · rw [xup_n (by omega), xup_n (by omega)]; exact h6
  · have hAi := hA i hi
    by_cases e : i = F
    · subst e
      rw [nup_s, xup_s, xup_n (by omega), xup_s]
      exact ⟨rfl, rfl⟩
    · have hne : ad i ≠ ad F := fun z => e (hI i F hi hF z)
      rw [nup_n e, xup_n hne, xup_n (by omega), xup_n (by omega), xup_n (by omega)]
      exact hC i hi
  · by_cases e : i = F
    · subst e; rw [nup_s]; exact hx
    · rw [nup_n e]; exact hV i hi
section TF
variable {h : xHp} {m : Nat} {P : Nat → V3} {n : Nat} {ad : Nat → Nat} {f : Nat → FD} {F E CB : Nat} {six : Int}
/-- the step of the machine: how many faces, and the outlines -/
def tfS (P : Nat → V3) (m p q r : Nat) (F : Nat) (f : Nat → FD) : Nat × (Nat → FD) := if 24 ≤ F ∨ knR f (2 ^ p ||| 2 ^ q ||| 2 ^ r) F 0 = true then (F, f) else if gcd3 (nrm P p q r) ≠ 0 ∧ ((fcS P m p q r).1 = 1 ∨ (fcS P m p q r).1 = 2) then (F + 1, stR (nup f F (nfD P m p q r (f F).2.2.2.2.2)) F) else (F, f)
set_option maxRecDepth 10000 in
set_option maxHeartbeats 2000000 in
theorem c_tryFace (h5 : h 5 = some (huC F E CB six)) (HC : xCl h m P) (H : xHf h ad f) (hF : F ≤ 24) (p q r : Nat) (hp : p < m) (hq : q < m) (hr : r < m) : xCall xmX1_tryFace 6 0 0 [.ref 5, zI p, zI q, zI r] n h (fun res n' h' => res = none ∧ n' = n ∧ h' 5 = some (huC (tfS P m p q r F f).1 E CB six) ∧ (∃ ad' f', xHf h' ad' f' ∧ ∀ i, i < (tfS P m p q r F f).1 → f' i = (tfS P m p q r F f).2 i) ∧ ∀ j, (j < 5 ∨ j = 7 ∨ j = 8 ∨ 57 ≤ j) → h' j = h j) := by
  have hm := HC.2.2.2.2.1
  have hb := HC.2.2.2.2.2
  have hw : 2 ^ p ||| 2 ^ q ||| 2 ^ r < 16384 := bits_or (bits_or (bits_pow (by omega)) (bits_pow (by omega))) (bits_pow (by omega))
  refine xCall.of xgX1_tryFace rfl ?_
  unfold tfS
  refine tt_op rfl rfl ?_
  refine tt_get rfl (by assumption) (by rfl) ?_
  refine tt_op rfl rfl ?_
  refine z_icmp rfl (by first | assumption | (unfold R3; omega)) (by first | assumption | (unfold R3; omega)) (fun c1 => ?_) (fun c1 => ?_)
  · simp only [zcd] at c1
    rw [if_pos (Or.inl (show 24 ≤ F by omega))]
    refine tt_return rfl rfl (Nat.le_of_ble_eq_true rfl) (Nat.le_of_ble_eq_true rfl) ?_
    exact ⟨rfl, rfl, h5, ⟨ad, f, H, fun _ _ => rfl⟩, fun _ _ => rfl⟩
  simp only [zcd] at c1
  refine tt_op rfl rfl ?_
  refine tt_op rfl rfl ?_
  refine tt_op rfl rfl ?_
  refine z_shl1 rfl (by omega) ?_
  refine tt_op rfl rfl ?_
  refine tt_op rfl rfl ?_
  refine z_shl1 rfl (by omega) ?_
  refine z_ior rfl ?_
  refine tt_op rfl rfl ?_
  refine tt_op rfl rfl ?_
  refine z_shl1 rfl (by omega) ?_
  refine z_ior rfl ?_
  refine tt_pV rfl rfl rfl h5 rfl (c_isKnown h5 H hF _ hw) ?_
  refine z_if rfl (by split <;> exact ⟨by decide, by decide⟩) (fun c2 => ?_) (fun c2 => ?_)
  rotate_left
  · have hk : knR f (2 ^ p ||| 2 ^ q ||| 2 ^ r) F 0 = true := by
      cases hx : knR f (2 ^ p ||| 2 ^ q ||| 2 ^ r) F 0 with
      | true => rfl
      | false => simp [zcd, hx] at c2
    rw [if_pos (Or.inr hk)]
    refine tt_return rfl rfl (Nat.le_of_ble_eq_true rfl) (Nat.le_of_ble_eq_true rfl) ?_
    exact ⟨rfl, rfl, h5, ⟨ad, f, H, fun _ _ => rfl⟩, fun _ _ => rfl⟩
  have hk : ¬ (24 ≤ F ∨ knR f (2 ^ p ||| 2 ^ q ||| 2 ^ r) F 0 = true) := by
    rintro (z | z)
    · omega
    · simp [zcd, z] at c2
  rw [if_neg hk]
  have H' := H
  obtain ⟨⟨rd, h6, hrd⟩, hA, hI, hC, hV⟩ := H
  have hF' : F < 24 := by omega
  obtain ⟨o1, r1⟩ := hC F hF'
  have hAF := hA F hF'
  have hVF := hV F hF'
  refine tt_op rfl rfl ?_
  refine tt_get rfl (by assumption) (by rfl) ?_
  refine tt_op rfl rfl ?_
  refine tt_get rfl (by assumption) (by rfl) ?_
  refine z_aald rfl h6 rfl hF' (by decide) (hrd F hF') ?_
  refine tt_op rfl rfl ?_
  refine tt_op rfl rfl ?_
  refine tt_op rfl rfl ?_
  refine tt_op rfl rfl ?_
  refine tt_op rfl rfl ?_
  refine tt_callV (M' := xmX3_face) rfl rfl rfl o1 rfl (c_face HC (ad F) (by omega) p q r (by omega) (by omega) (by omega) _ _ _ _ _ _ o1) ?_
  rintro res n1 h1 ⟨rfl, ⟨hok, rfl, rfl⟩ | ⟨hok, rfl, d, lv, se, hse, rfl⟩⟩
  rotate_left
  · refine z_if rfl (by first | assumption | (unfold R3; omega)) (fun c => ?_) (fun c => absurd (by simp only [zcd] <;> omega) c)
    rw [if_neg (show ¬ (gcd3 (nrm P p q r) ≠ 0 ∧ ((fcS P m p q r).1 = 1 ∨ (fcS P m p q r).1 = 2)) from hok)]
    refine tt_return rfl rfl (Nat.le_of_ble_eq_true rfl) (Nat.le_of_ble_eq_true rfl) ?_
    have hx : fdV (d, lv, se, (f F).2.2.2.1, (f F).2.2.2.2.1, (f F).2.2.2.2.2) := by
      obtain ⟨v1, v2, v3, v4, v5, v6⟩ := hVF
      rcases hse with ⟨rfl, rfl, rfl⟩ | ⟨rfl, rfl, rfl⟩
      · exact ⟨v1, v2, v3, v4, v5, v6⟩
      · have b1 := prim_bd (nrm_bd hb (show p < 14 by omega) (show q < 14 by omega) (show r < 14 by omega))
        have b2 := dot_bd b1 (hb p (by omega))
        have b3 : -1000000 ≤ dot (prim (nrm P p q r)) (P p) ∧ dot (prim (nrm P p q r)) (P p) ≤ 1000000 := by omega
        exact ⟨b1, b3, sdR_w P _ _ m 0 0 0 (by omega) (by decide), v4, v5, v6⟩
    have hput := xHf_put hF' H' _ hx
    rw [xup_same r1] at hput
    refine ⟨rfl, rfl, ?_, ⟨ad, _, hput, fun i hi => nup_n (by have : i < F := hi; omega)⟩, fun j hj => xup_n (by omega)⟩
    rw [xup_n (by omega)]; exact h5
  rw [if_pos (show gcd3 (nrm P p q r) ≠ 0 ∧ ((fcS P m p q r).1 = 1 ∨ (fcS P m p q r).1 = 2) from hok)]
  refine z_if rfl (by first | assumption | (unfold R3; omega)) (fun c => absurd c (by simp only [zcd] <;> omega)) (fun c => ?_)
  obtain ⟨hD, hL⟩ := fcD_bd (m := m) hb (show p < 14 by omega) (show q < 14 by omega) (show r < 14 by omega)
  have hS0 := fcS_pos hp hok
  have hS : (fcS P m p q r).2 < 16384 := sdR_w P _ _ m 0 0 0 (by omega) (by decide)
  obtain ⟨v1, v2, v3, v4, v5, v6⟩ := hVF
  obtain ⟨⟨t1, t2⟩, t3, t4, t5⟩ := nfT_ok (P := P) (d := fcD P m p q r) hS hS0 v6
  have hrm := rmF_lt (P := P) (d := fcD P m p q r) hS hS0
  have hNF : nfD P m p q r (f F).2.2.2.2.2 = (fcD P m p q r, fcL P m p q r, (fcS P m p q r).2, (nfT P (fcD P m p q r) (fcS P m p q r).2 (f F).2.2.2.2.2).2.1, (nfT P (fcD P m p q r) (fcS P m p q r).2 (f F).2.2.2.2.2).2.2, (nfT P (fcD P m p q r) (fcS P m p q r).2 (f F).2.2.2.2.2).1) := rfl
  generalize hX : nfD P m p q r (f F).2.2.2.2.2 = X at hNF
  generalize hd : fcD P m p q r = d at *
  generalize hl : fcL P m p q r = lv at *
  generalize hs : (fcS P m p q r).2 = S at *
  generalize hrow : (f F).2.2.2.2.2 = row at *
  generalize hme : (f F).2.2.2.1 = me at *
  generalize hle : (f F).2.2.2.2.1 = le at *
  have K1 := xCl_up (e := oC d lv S me le (ad F + 1)) (show 5 ≤ ad F by omega) HC
  have o1 := (xup_s : xup h (ad F) (oC d lv S me le (ad F + 1)) (ad F) = _)
  have r1' : xup h (ad F) (oC d lv S me le (ad F + 1)) (ad F + 1) = some (zA 14 fun k => (row k : Int)) := by rw [xup_n (by omega), ← hrow]; exact r1
  refine tt_op rfl rfl ?_
  refine tt_op rfl rfl ?_
  refine tt_pV rfl rfl rfl o1 rfl (c_rim K1 (ad F) d lv S _ _ _ hS hS0 hD o1) ?_
  refine tt_callV (M' := xmX3_trace) rfl rfl rfl o1 rfl (c_trace K1 (ad F) (by omega) d lv S _ _ (ad F + 1) (rmF P d S) _ (by omega) (by omega) hS hrm hD o1 r1') ?_
  rintro res2 n2 h2 ⟨rfl, rfl, rfl⟩
  rw [trN_eq]
  dsimp only
  rw [xup_comm (show ad F ≠ ad F + 1 by omega), xup_xup]
  have K2 := xCl_up (e := oC d lv S (trN P d S (rmF P d S) 14 0 (rmF P d S) row 0).2.1 (trN P d S (rmF P d S) 14 0 (rmF P d S) row 0).2.2 (ad F + 1)) (show 5 ≤ ad F by omega) (xCl_up (e := zA 14 fun j => ((trN P d S (rmF P d S) 14 0 (rmF P d S) row 0).1 j : Int)) (show 5 ≤ ad F + 1 by omega) HC)
  have o2 := (xup_s : xup (xup h (ad F + 1) (zA 14 fun j => ((trN P d S (rmF P d S) 14 0 (rmF P d S) row 0).1 j : Int))) (ad F) (oC d lv S (trN P d S (rmF P d S) 14 0 (rmF P d S) row 0).2.1 (trN P d S (rmF P d S) 14 0 (rmF P d S) row 0).2.2 (ad F + 1)) (ad F) = _)
  have r2 : xup (xup h (ad F + 1) (zA 14 fun j => ((trN P d S (rmF P d S) 14 0 (rmF P d S) row 0).1 j : Int))) (ad F) (oC d lv S (trN P d S (rmF P d S) 14 0 (rmF P d S) row 0).2.1 (trN P d S (rmF P d S) 14 0 (rmF P d S) row 0).2.2 (ad F + 1)) (ad F + 1) = some (zA 14 fun j => ((trN P d S (rmF P d S) 14 0 (rmF P d S) row 0).1 j : Int)) := by rw [xup_n (by omega)]; exact xup_s
  refine tt_op rfl rfl ?_
  refine tt_op rfl rfl ?_
  refine tt_get rfl (by assumption) (by rfl) ?_
  refine tt_pS rfl rfl rfl rfl (c_ntz _ t2 t1 _ _) ?_
  refine tt_callV (M' := xmX3_trace) rfl rfl rfl o2 rfl (c_trace K2 (ad F) (by omega) d lv S _ _ (ad F + 1) _ _ (by omega) (by omega) hS (tz_lt t2 t1) hD o2 r2) ?_
  rintro res3 n3 h3 ⟨rfl, rfl, rfl⟩
  rw [trN_eq]
  dsimp only
  rw [xup_comm (show ad F ≠ ad F + 1 by omega), xup_xup, xup_xup]
  have hXv : fdV X := by rw [hNF]; exact ⟨hD, hL, hS, t3, t4, t5⟩
  have hput := xHf_put hF' H' X hXv
  have hcell : xup (xup h (ad F + 1) (zA 14 fun j => ((trN P d S (tz (trN P d S (rmF P d S) 14 0 (rmF P d S) row 0).2.1) 14 0 (tz (trN P d S (rmF P d S) 14 0 (rmF P d S) row 0).2.1) (trN P d S (rmF P d S) 14 0 (rmF P d S) row 0).1 0).1 j : Int))) (ad F) (oC d lv S (trN P d S (tz (trN P d S (rmF P d S) 14 0 (rmF P d S) row 0).2.1) 14 0 (tz (trN P d S (rmF P d S) 14 0 (rmF P d S) row 0).2.1) (trN P d S (rmF P d S) 14 0 (rmF P d S) row 0).1 0).2.1 (trN P d S (tz (trN P d S (rmF P d S) 14 0 (rmF P d S) row 0).2.1) 14 0 (tz (trN P d S (rmF P d S) 14 0 (rmF P d S) row 0).2.1) (trN P d S (rmF P d S) 14 0 (rmF P d S) row 0).1 0).2.2 (ad F + 1)) = xup (xup h (ad F + 1) (fdA X)) (ad F) (fdC X (ad F + 1)) := by rw [hNF]; rfl
  rw [hcell]
  have h5' : xup (xup h (ad F + 1) (fdA X)) (ad F) (fdC X (ad F + 1)) 5 = some (huC F E CB six) := by rw [xup_n (by omega), xup_n (by omega)]; exact h5
  refine tt_op rfl rfl ?_
  refine tt_op rfl rfl ?_
  refine tt_get rfl (by assumption) (by rfl) ?_
  refine tt_op rfl rfl ?_
  refine z_iadd rfl ?_
  refine tt_put rfl (h5') rfl (by decide) (by rfl) (by rfl) rfl ?_
  have h5'' := (xup_s : xup (xup (xup h (ad F + 1) (fdA X)) (ad F) (fdC X (ad F + 1))) 5 (huC (F + 1) E CB six) 5 = _)
  have hput2 : xHf (xup (xup (xup h (ad F + 1) (fdA X)) (ad F) (fdC X (ad F + 1))) 5 (huC (F + 1) E CB six)) ad (nup f F X) := by
    obtain ⟨⟨rd', g6, grd⟩, gA, gI, gC, gV⟩ := hput
    refine ⟨⟨rd', by rw [xup_n (by omega)]; exact g6, grd⟩, gA, gI, fun i hi => ?_, gV⟩
    have := gA i hi
    rw [xup_n (q := 5) (j := ad i) (by omega), xup_n (q := 5) (j := ad i + 1) (by omega)]
    exact gC i hi
  refine tt_op rfl rfl ?_
  refine tt_callV (M' := xmX1_settle) rfl rfl rfl h5'' rfl (c_settle h5'' hput2 ⟨by omega, by omega⟩) ?_
  rintro res4 n4 h4 ⟨rfl, rfl, ⟨ad4, g4⟩, e4⟩
  refine tt_return rfl rfl (Nat.le_of_ble_eq_true rfl) (Nat.le_of_ble_eq_true rfl) ?_
  refine ⟨rfl, rfl, ?_, ⟨ad4, _, g4, fun i hi => rfl⟩, fun j hj => ?_⟩
  · rw [e4 5 (by omega)]; exact xup_s
  · rw [e4 j (by omega), xup_n (by omega), xup_n (by omega), xup_n (by omega)]
end TF
