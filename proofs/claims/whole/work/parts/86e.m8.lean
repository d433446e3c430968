/-! The reference: places, what is far, ways -/
theorem plR_spec {f : Nat → FD} {u : V3} {dn : Int} : ∀ (k i v : Nat), (v = 1 ∨ v = 2) → (plR f u dn k i v = 0 ↔ ∃ j, i ≤ j ∧ j < i + k ∧ 0 < dot (f j).1 u - (f j).2.1 * dn) ∧ (plR f u dn k i v = 1 ↔ (¬ ∃ j, i ≤ j ∧ j < i + k ∧ 0 < dot (f j).1 u - (f j).2.1 * dn) ∧ (v = 1 ∨ ∃ j, i ≤ j ∧ j < i + k ∧ dot (f j).1 u - (f j).2.1 * dn = 0)) ∧ plR f u dn k i v ≤ 2
  | 0, i, v, hv => by
    have n1 : ¬ ∃ j, i ≤ j ∧ j < i + 0 ∧ 0 < dot (f j).1 u - (f j).2.1 * dn := by rintro ⟨j, a, b, _⟩; omega
    have n2 : ¬ ∃ j, i ≤ j ∧ j < i + 0 ∧ dot (f j).1 u - (f j).2.1 * dn = 0 := by rintro ⟨j, a, b, _⟩; omega
    simp only [plR, n1, n2]
    simp
    omega
  | k + 1, i, v, hv => by
    simp only [plR]
    split
    · rename_i h
      have y : ∃ j, i ≤ j ∧ j < i + (k + 1) ∧ 0 < dot (f j).1 u - (f j).2.1 * dn := ⟨i, by omega, by omega, h⟩
      exact ⟨⟨fun _ => y, fun _ => rfl⟩, ⟨fun e => by omega, fun e => absurd y e.1⟩, by omega⟩
    · rename_i h
      have e1 : (∃ j, i ≤ j ∧ j < i + (k + 1) ∧ 0 < dot (f j).1 u - (f j).2.1 * dn) ↔ ∃ j, i + 1 ≤ j ∧ j < i + 1 + k ∧ 0 < dot (f j).1 u - (f j).2.1 * dn := by
        constructor
        · rintro ⟨j, a, b, c⟩
          by_cases e : j = i
          · subst e; exact absurd c h
          · exact ⟨j, by omega, by omega, c⟩
        · rintro ⟨j, a, b, c⟩; exact ⟨j, by omega, by omega, c⟩
      by_cases h0 : dot (f i).1 u - (f i).2.1 * dn = 0
      · rw [if_pos h0]
        obtain ⟨a, b, c⟩ := plR_spec (f := f) (u := u) (dn := dn) k (i + 1) 1 (Or.inl rfl)
        rw [e1]
        refine ⟨a, ?_, c⟩
        rw [b]
        exact ⟨fun x => ⟨x.1, Or.inr ⟨i, by omega, by omega, h0⟩⟩, fun x => ⟨x.1, Or.inl rfl⟩⟩
      · rw [if_neg h0]
        obtain ⟨a, b, c⟩ := plR_spec (f := f) (u := u) (dn := dn) k (i + 1) v hv
        rw [e1]
        refine ⟨a, ?_, c⟩
        rw [b]
        constructor
        · rintro ⟨x, y | ⟨j, p, q, r⟩⟩
          · exact ⟨x, Or.inl y⟩
          · exact ⟨x, Or.inr ⟨j, by omega, by omega, r⟩⟩
        · rintro ⟨x, y | ⟨j, p, q, r⟩⟩
          · exact ⟨x, Or.inl y⟩
          · refine ⟨x, Or.inr ⟨j, ?_, by omega, r⟩⟩
            by_cases e : j = i
            · subst e; exact absurd r h0
            · omega
def mwR (nn : Nat → V3) (lv : Nat → Int) (u : V3) (dn : Int) : Nat → Nat
  | 0 => 2
  | k + 1 => if 0 < dot (nn k) u - lv k * dn then 0 else if dot (nn k) u - lv k * dn = 0 ∧ mwR nn lv u dn k = 2 then 1 else mwR nn lv u dn k
theorem mwR_spec {nn : Nat → V3} {lv : Nat → Int} {u : V3} {dn : Int} : ∀ k, (mwR nn lv u dn k = 0 ↔ ∃ j, j < k ∧ 0 < dot (nn j) u - lv j * dn) ∧ (mwR nn lv u dn k = 1 ↔ (¬ ∃ j, j < k ∧ 0 < dot (nn j) u - lv j * dn) ∧ ∃ j, j < k ∧ dot (nn j) u - lv j * dn = 0) ∧ mwR nn lv u dn k ≤ 2
  | 0 => by
    have n1 : ¬ ∃ j, j < 0 ∧ 0 < dot (nn j) u - lv j * dn := by rintro ⟨j, a, _⟩; omega
    have n2 : ¬ ∃ j, j < 0 ∧ dot (nn j) u - lv j * dn = 0 := by rintro ⟨j, a, _⟩; omega
    simp only [mwR, n1, n2]; simp
  | k + 1 => by
    obtain ⟨a, b, c⟩ := mwR_spec (nn := nn) (lv := lv) (u := u) (dn := dn) k
    simp only [mwR]
    by_cases h : 0 < dot (nn k) u - lv k * dn
    · rw [if_pos h]
      have y : ∃ j, j < k + 1 ∧ 0 < dot (nn j) u - lv j * dn := ⟨k, by omega, h⟩
      exact ⟨⟨fun _ => y, fun _ => rfl⟩, ⟨fun e => by omega, fun e => absurd y e.1⟩, by omega⟩
    · rw [if_neg h]
      have e1 : (∃ j, j < k + 1 ∧ 0 < dot (nn j) u - lv j * dn) ↔ ∃ j, j < k ∧ 0 < dot (nn j) u - lv j * dn := by
        constructor
        · rintro ⟨j, x, y⟩
          by_cases e : j = k
          · subst e; exact absurd y h
          · exact ⟨j, by omega, y⟩
        · rintro ⟨j, x, y⟩; exact ⟨j, by omega, y⟩
      rw [e1]
      by_cases h0 : dot (nn k) u - lv k * dn = 0
      · have y : ∃ j, j < k + 1 ∧ dot (nn j) u - lv j * dn = 0 := ⟨k, by omega, h0⟩
        by_cases h2 : mwR nn lv u dn k = 2
        · rw [if_pos ⟨h0, h2⟩]
          have np : ¬ ∃ j, j < k ∧ 0 < dot (nn j) u - lv j * dn := fun e => by have := a.2 e; omega
          exact ⟨⟨fun e => by omega, fun e => absurd e np⟩, ⟨fun _ => ⟨np, y⟩, fun _ => rfl⟩, by omega⟩
        · rw [if_neg (fun e => h2 e.2)]
          refine ⟨a, ⟨fun e => ⟨(b.1 e).1, y⟩, fun e => ?_⟩, c⟩
          have : mwR nn lv u dn k ≠ 0 := fun e2 => e.1 (a.1 e2)
          omega
      · rw [if_neg (fun e => h0 e.1)]
        refine ⟨a, ?_, c⟩
        rw [b]
        constructor
        · rintro ⟨x, j, p, q⟩; exact ⟨x, j, by omega, q⟩
        · rintro ⟨x, j, p, q⟩
          by_cases e : j = k
          · subst e; exact absurd q h0
          · exact ⟨x, j, by omega, q⟩
theorem where_eq {P : Nat → V3} {m : Nat} (hm : m ≤ 14) (hb : ∀ j, j < m → vbd 20 (P j)) (hD : Dis P m) {fa : Nat} {fb : Nat → Nat} {nn : Nat → V3} {lv : Nat → Int} (h : mAll P m fa fb nn lv) (u : V3) (dn : Int) : mwR nn lv u dn fa = plR (blF P m).2 u dn (blF P m).1 0 2 := by
  obtain ⟨⟨c1, c2, c3, c4⟩, call⟩ := blF_spec hm hb hD
  obtain ⟨_, m2, _, m4⟩ := h
  obtain ⟨a1, a2, a3⟩ := mwR_spec (nn := nn) (lv := lv) (u := u) (dn := dn) fa
  obtain ⟨b1, b2, b3⟩ := plR_spec (f := (blF P m).2) (u := u) (dn := dn) (blF P m).1 0 2 (Or.inr rfl)
  have tr : ∀ (R : Int → Prop), (∃ j, j < fa ∧ R (dot (nn j) u - lv j * dn)) ↔ ∃ j, 0 ≤ j ∧ j < 0 + (blF P m).1 ∧ R (dot ((blF P m).2 j).1 u - ((blF P m).2 j).2.1 * dn) := by
    intro R
    constructor
    · rintro ⟨j, x, y⟩
      obtain ⟨i, i1, i2, i3⟩ := call _ _ (m2 j x).1
      exact ⟨i, by omega, by omega, by rw [i2, i3]; exact y⟩
    · rintro ⟨j, _, x, y⟩
      obtain ⟨f, f1, f2, f3⟩ := m4 _ _ (c2 j (by omega)).1
      exact ⟨f, f1, by rw [f2, f3]; exact y⟩
  rw [tr (fun z => 0 < z)] at a1 a2
  rw [tr (fun z => z = 0)] at a2
  have b2' : plR (blF P m).2 u dn (blF P m).1 0 2 = 1 ↔ (¬ ∃ j, 0 ≤ j ∧ j < 0 + (blF P m).1 ∧ 0 < dot ((blF P m).2 j).1 u - ((blF P m).2 j).2.1 * dn) ∧ ∃ j, 0 ≤ j ∧ j < 0 + (blF P m).1 ∧ dot ((blF P m).2 j).1 u - ((blF P m).2 j).2.1 * dn = 0 := by
    rw [b2]
    constructor
    · rintro ⟨x, y | y⟩
      · omega
      · exact ⟨x, y⟩
    · rintro ⟨x, y⟩; exact ⟨x, Or.inr y⟩
  have e0 := a1.trans b1.symm
  have e1 := a2.trans b2'.symm
  omega
section M8
variable {h : xHp} {m : Nat} {P : Nat → V3} {bu tb fl co fa : Nat} {fb fs fr : Nat → Nat} {nn : Nat → V3} {lv : Nat → Int} {a : V3} {fat : Nat → Nat} {w : Int × V3} {cm : Int} {cX cY cZ cD su sv : Nat → Int} {tu : Nat} {im : Nat → Int} {rk ba : Nat → Nat} {go : Nat → Int}
variable {n : Nat} {hh : xHp}
set_option maxRecDepth 10000 in
set_option maxHeartbeats 1000000 in
theorem m_where (H : mHp hh m P cm cX cY cZ cD) (x y z dn : Int) (hx : R3 x) (hy : R3 y) (hz : R3 z) (hw : R3 dn) : xCall xmX6_where 100 0 0 [.ref 64, zI x, zI y, zI z, zI dn] n hh (mPo hh m P cm cX cY cZ cD n (zI (if 0 < (blF P m).1 then (if (1 ≤ dn ∧ dn ≤ 1000) ∧ (-100000 ≤ x ∧ x ≤ 100000) ∧ (-100000 ≤ y ∧ y ≤ 100000) ∧ (-100000 ≤ z ∧ z ≤ 100000) then (plR (blF P m).2 (x, y, z) dn (blF P m).1 0 2 : Int) else -2) else -3))) := by
  obtain ⟨fs, hq⟩ := H.at
  refine xCall.of xgX6_where rfl ?_
  refine tt_op rfl rfl ?_
  refine tt_callV (M' := xmX6_noSolid) rfl rfl rfl hq rfl (m_noSolid H) ?_
  rintro res n' h' ⟨rfl, h64, ⟨hF, rfl, hM⟩ | ⟨hF, rfl, hM⟩⟩
  · rw [if_neg hF]
    refine z_if rfl (by first | assumption | (unfold R3; omega)) (fun c => absurd c (by simp only [zcd] <;> omega)) (fun c => ?_)
    refine tt_op rfl rfl ?_
    refine tt_ireturn rfl rfl (by rfl) (Nat.le_of_ble_eq_true rfl) (Nat.le_of_ble_eq_true rfl) ?_
    exact ⟨rfl, h64, hM, rfl⟩
  rw [if_pos hF]
  have hM' := hM.hp
  obtain ⟨h, tb, fl, co, fa, fb, fs, fr, nn, lv, a, fat, w, su, sv, tu, im, rk, ba, go, rfl, hI, hS⟩ := hM
  obtain ⟨_, ⟨hm, hb, hD⟩, hs, hA, _, hbd, hmt, hrn⟩ := SF_u hS
  have h24 : fa ≤ 24 := hA.1
  have no : ¬ ((1 ≤ dn ∧ dn ≤ 1000) ∧ (-100000 ≤ x ∧ x ≤ 100000) ∧ (-100000 ≤ y ∧ y ≤ 100000) ∧ (-100000 ≤ z ∧ z ≤ 100000)) → ∀ ls, xT xmX6_where (100, 0, 0, 0, 0) 55 ls [] n' (mdH h m P (1) tb fl co fa fb fs fr nn lv a fat w cm cX cY cZ cD su sv tu im rk ba go) (mPo hh m P cm cX cY cZ cD n' (zI (if (1 ≤ dn ∧ dn ≤ 1000) ∧ (-100000 ≤ x ∧ x ≤ 100000) ∧ (-100000 ≤ y ∧ y ≤ 100000) ∧ (-100000 ≤ z ∧ z ≤ 100000) then (plR (blF P m).2 (x, y, z) dn (blF P m).1 0 2 : Int) else -2))) := by
    intro e ls
    rw [if_neg e]
    refine tt_op rfl rfl ?_
    refine tt_ireturn rfl rfl (by rfl) (Nat.le_of_ble_eq_true rfl) (Nat.le_of_ble_eq_true rfl) ?_
    exact ⟨rfl, h64, hM', rfl⟩
  refine z_if rfl (by first | assumption | (unfold R3; omega)) (fun c => ?_) (fun c => absurd (by simp only [zcd] <;> omega) c)
  refine tt_op rfl rfl ?_
  refine tt_op rfl rfl ?_
  refine tt_op rfl rfl ?_
  refine tt_pS rfl rfl rfl rfl (m_in dn 1 1000 hw ⟨by decide, by decide⟩ ⟨by decide, by decide⟩ _ _) ?_
  by_cases c1 : 1 ≤ dn ∧ dn ≤ 1000
  rotate_left
  · rw [if_neg c1]
    refine z_if rfl (by first | assumption | (unfold R3; omega)) (fun c => ?_) (fun c => absurd (by simp only [zcd] <;> omega) c)
    exact no (fun e => c1 e.1) _
  rw [if_pos c1]
  refine z_if rfl (by first | assumption | (unfold R3; omega)) (fun c => absurd c (by simp only [zcd] <;> omega)) (fun c => ?_)
  refine tt_op rfl rfl ?_
  refine tt_op rfl rfl ?_
  refine tt_op rfl rfl ?_
  refine tt_pS rfl rfl rfl rfl (m_in x (-100000) 100000 hx ⟨by decide, by decide⟩ ⟨by decide, by decide⟩ _ _) ?_
  by_cases c2 : -100000 ≤ x ∧ x ≤ 100000
  rotate_left
  · rw [if_neg c2]
    refine z_if rfl (by first | assumption | (unfold R3; omega)) (fun c => ?_) (fun c => absurd (by simp only [zcd] <;> omega) c)
    exact no (fun e => c2 e.2.1) _
  rw [if_pos c2]
  refine z_if rfl (by first | assumption | (unfold R3; omega)) (fun c => absurd c (by simp only [zcd] <;> omega)) (fun c => ?_)
  refine tt_op rfl rfl ?_
  refine tt_op rfl rfl ?_
  refine tt_op rfl rfl ?_
  refine tt_pS rfl rfl rfl rfl (m_in y (-100000) 100000 hy ⟨by decide, by decide⟩ ⟨by decide, by decide⟩ _ _) ?_
  by_cases c3 : -100000 ≤ y ∧ y ≤ 100000
  rotate_left
  · rw [if_neg c3]
    refine z_if rfl (by first | assumption | (unfold R3; omega)) (fun c => ?_) (fun c => absurd (by simp only [zcd] <;> omega) c)
    exact no (fun e => c3 e.2.2.1) _
  rw [if_pos c3]
  refine z_if rfl (by first | assumption | (unfold R3; omega)) (fun c => absurd c (by simp only [zcd] <;> omega)) (fun c => ?_)
  refine tt_op rfl rfl ?_
  refine tt_op rfl rfl ?_
  refine tt_op rfl rfl ?_
  refine tt_pS rfl rfl rfl rfl (m_in z (-100000) 100000 hz ⟨by decide, by decide⟩ ⟨by decide, by decide⟩ _ _) ?_
  by_cases c4 : -100000 ≤ z ∧ z ≤ 100000
  rotate_left
  · rw [if_neg c4]
    refine z_if rfl (by first | assumption | (unfold R3; omega)) (fun c => absurd c (by simp only [zcd] <;> omega)) (fun c => ?_)
    exact no (fun e => c4 e.2.2.2) _
  rw [if_pos c4, if_pos ⟨c1, c2, c3, c4⟩]
  refine z_if rfl (by first | assumption | (unfold R3; omega)) (fun c => ?_) (fun c => absurd (by simp only [zcd] <;> omega) c)
  refine tt_op rfl rfl ?_
  refine tt_op rfl rfl ?_
  refine tt_op rfl rfl ?_
  refine tt_op rfl rfl ?_
  have loop : ∀ (j f : Nat) (l7 : Option Value), f + j = fa → xT xmX6_where (100, 0, 0, 0, 0) 64 [some (.ref 64), some (zI x), some (zI y), some (zI z), some (zI dn), some (zI (mwR nn lv (x, y, z) dn f : Nat)), some (zI f), l7, none] [] n' (mdH h m P (1) tb fl co fa fb fs fr nn lv a fat w cm cX cY cZ cD su sv tu im rk ba go) (mPo hh m P cm cX cY cZ cD n' (zI (plR (blF P m).2 (x, y, z) dn (blF P m).1 0 2 : Int))) := by
    intro j
    induction j with
    | zero =>
      intro f l7 hf
      have : f = fa := by omega
      subst this
      refine tt_op rfl rfl ?_
      refine tt_op rfl rfl ?_
      refine tt_get rfl md64 (by rfl) ?_
      refine z_icmp rfl (by first | assumption | (unfold R3; omega)) (by first | assumption | (unfold R3; omega)) (fun c => ?_) (fun c => absurd (by simp only [zcd] <;> omega) c)
      refine tt_op rfl rfl ?_
      refine tt_ireturn rfl rfl (by rfl) (Nat.le_of_ble_eq_true rfl) (Nat.le_of_ble_eq_true rfl) ?_
      refine ⟨rfl, h64, hM', ?_⟩
      rw [where_eq hm (fun j hj => hb j (by omega)) hD hA]
    | succ j ih =>
      intro f l7 hf
      have v := hbd.2.1 f (by omega)
      have vl := hbd.2.2.1 f (by omega)
      obtain ⟨v1, v2, v3⟩ := v
      have vv : R3 (nn f).1 ∧ R3 (nn f).2.1 ∧ R3 (nn f).2.2 ∧ R3 (lv f) := ⟨⟨by omega, by omega⟩, ⟨by omega, by omega⟩, ⟨by omega, by omega⟩, ⟨by omega, by omega⟩⟩
      obtain ⟨w1, w2, w3, w4⟩ := vv
      have m1 := mul_bd (A := 3200) (B := 100000) v1 (by omega : -100000 ≤ x ∧ x ≤ 100000)
      have m2 := mul_bd (A := 3200) (B := 100000) v2 (by omega : -100000 ≤ y ∧ y ≤ 100000)
      have m3 := mul_bd (A := 3200) (B := 100000) v3 (by omega : -100000 ≤ z ∧ z ≤ 100000)
      have m4 := mul_bd (A := 1000000) (B := 1000) vl (by omega : -1000 ≤ dn ∧ dn ≤ 1000)
      have hR : R6 ((nn f).1 * x + (nn f).2.1 * y + (nn f).2.2 * z - lv f * dn) := ⟨by omega, by omega⟩
      have nxt : ∀ (r : Nat) (l7 : Option Value), r = mwR nn lv (x, y, z) dn (f + 1) → xT xmX6_where (100, 0, 0, 0, 0) 153 [some (.ref 64), some (zI x), some (zI y), some (zI z), some (zI dn), some (zI (mwR nn lv (x, y, z) dn f : Nat)), some (zI f), l7, none] [zI r] n' (mdH h m P (1) tb fl co fa fb fs fr nn lv a fat w cm cX cY cZ cD su sv tu im rk ba go) (mPo hh m P cm cX cY cZ cD n' (zI (plR (blF P m).2 (x, y, z) dn (blF P m).1 0 2 : Int))) := by
        intro r l7 hr
        refine tt_op rfl rfl ?_
        refine z_iinc rfl rfl rfl ?_
        refine tt_goto rfl ?_
        rw [hr]
        exact ih (f + 1) l7 (by omega)
      have hle := (mwR_spec (nn := nn) (lv := lv) (u := (x, y, z)) (dn := dn) f).2.2
      have unf : mwR nn lv (x, y, z) dn (f + 1) = if 0 < (nn f).1 * x + (nn f).2.1 * y + (nn f).2.2 * z - lv f * dn then 0 else if (nn f).1 * x + (nn f).2.1 * y + (nn f).2.2 * z - lv f * dn = 0 ∧ mwR nn lv (x, y, z) dn f = 2 then 1 else mwR nn lv (x, y, z) dn f := rfl
      refine tt_op rfl rfl ?_
      refine tt_op rfl rfl ?_
      refine tt_get rfl md64 (by rfl) ?_
      refine z_icmp rfl (by first | assumption | (unfold R3; omega)) (by first | assumption | (unfold R3; omega)) (fun c => absurd c (by simp only [zcd] <;> omega)) (fun c => ?_)
      refine tt_op rfl rfl ?_
      refine tt_get rfl md64 (by rfl) ?_
      refine tt_op rfl rfl ?_
      refine z_iald rfl md71 rfl (by omega) (by decide) ?_
      refine z_il rfl (by first | assumption | (unfold R3; omega)) ?_
      refine tt_op rfl rfl ?_
      refine z_il rfl (by first | assumption | (unfold R3; omega)) ?_
      refine z_lmul rfl ?_
      refine tt_op rfl rfl ?_
      refine tt_get rfl md64 (by rfl) ?_
      refine tt_op rfl rfl ?_
      refine z_iald rfl md72 rfl (by omega) (by decide) ?_
      refine z_il rfl (by first | assumption | (unfold R3; omega)) ?_
      refine tt_op rfl rfl ?_
      refine z_il rfl (by first | assumption | (unfold R3; omega)) ?_
      refine z_lmul rfl ?_
      refine z_ladd rfl ?_
      refine tt_op rfl rfl ?_
      refine tt_get rfl md64 (by rfl) ?_
      refine tt_op rfl rfl ?_
      refine z_iald rfl md73 rfl (by omega) (by decide) ?_
      refine z_il rfl (by first | assumption | (unfold R3; omega)) ?_
      refine tt_op rfl rfl ?_
      refine z_il rfl (by first | assumption | (unfold R3; omega)) ?_
      refine z_lmul rfl ?_
      refine z_ladd rfl ?_
      refine tt_op rfl rfl ?_
      refine tt_get rfl md64 (by rfl) ?_
      refine tt_op rfl rfl ?_
      refine z_iald rfl md74 rfl (by omega) (by decide) ?_
      refine z_il rfl (by first | assumption | (unfold R3; omega)) ?_
      refine tt_op rfl rfl ?_
      refine z_il rfl (by first | assumption | (unfold R3; omega)) ?_
      refine z_lmul rfl ?_
      refine z_lsub rfl ?_
      refine tt_op rfl rfl ?_
      refine tt_op rfl rfl ?_
      refine tt_op rfl rfl ?_
      refine z_lif rfl rfl hR ⟨by decide, by decide⟩ (fun d1 => ?_) (fun d1 => ?_)
      · simp only [zcd] at d1
        refine tt_op rfl rfl ?_
        refine tt_op rfl rfl ?_
        refine z_lif rfl rfl hR ⟨by decide, by decide⟩ (fun d2 => ?_) (fun d2 => ?_)
        · simp only [zcd] at d2
          refine tt_op rfl rfl ?_
          exact nxt _ _ (by rw [unf, if_neg (by omega), if_neg (fun e => d2 e.1)])
        · simp only [zcd] at d2
          refine tt_op rfl rfl ?_
          refine tt_op rfl rfl ?_
          refine z_icmp rfl (by first | assumption | (unfold R3; omega)) (by first | assumption | (unfold R3; omega)) (fun d3 => ?_) (fun d3 => ?_)
          · simp only [zcd] at d3
            refine tt_op rfl rfl ?_
            exact nxt _ _ (by rw [unf, if_neg (by omega), if_neg (fun e => by omega)])
          · simp only [zcd] at d3
            refine tt_op rfl rfl ?_
            refine tt_goto rfl ?_
            exact nxt 1 _ (by rw [unf, if_neg (by omega), if_pos ⟨by omega, by omega⟩])
      · simp only [zcd] at d1
        refine tt_op rfl rfl ?_
        refine tt_goto rfl ?_
        exact nxt 0 _ (by rw [unf, if_pos (by omega)])
  exact loop fa 0 none (by omega)
set_option maxRecDepth 10000 in
theorem m_isDir (x y z : Int) (hx : R3 x) (hy : R3 y) (hz : R3 z) (v : Value) (hv1 : isDir x y z → v = zI 1) (hv0 : ¬ isDir x y z → v = zI 0) (n : Nat) (h : xHp) : xPure xmX6_isDirection 2 [zI x, zI y, zI z] n h v := by
  refine xCall.of xgX6_isDirection rfl ?_
  have no : ¬ isDir x y z → xT xmX6_isDirection (2, 0, 0, 0, 0) 49 [some (zI x), some (zI y), some (zI z)] [] n h (fun r n' h' => r = some v ∧ n' = n ∧ h' = h) := by
    intro e
    refine tt_op rfl rfl ?_
    refine tt_ireturn rfl rfl (by rfl) (Nat.le_of_ble_eq_true rfl) (Nat.le_of_ble_eq_true rfl) ?_
    rw [hv0 e]
    exact ⟨rfl, rfl, rfl⟩
  have yes : isDir x y z → xT xmX6_isDirection (2, 0, 0, 0, 0) 45 [some (zI x), some (zI y), some (zI z)] [] n h (fun r n' h' => r = some v ∧ n' = n ∧ h' = h) := by
    intro e
    refine tt_op rfl rfl ?_
    refine tt_goto rfl ?_
    refine tt_ireturn rfl rfl (by rfl) (Nat.le_of_ble_eq_true rfl) (Nat.le_of_ble_eq_true rfl) ?_
    rw [hv1 e]
    exact ⟨rfl, rfl, rfl⟩
  refine tt_op rfl rfl ?_
  refine tt_op rfl rfl ?_
  refine tt_op rfl rfl ?_
  refine tt_pS rfl rfl rfl rfl (m_in x (-20) 20 hx ⟨by decide, by decide⟩ ⟨by decide, by decide⟩ _ _) ?_
  by_cases c1 : -20 ≤ x ∧ x ≤ 20
  rotate_left
  · rw [if_neg c1]
    refine z_if rfl (by first | assumption | (unfold R3; omega)) (fun c => ?_) (fun c => absurd (by simp only [zcd] <;> omega) c)
    exact no (fun e => c1 e.2.1)
  rw [if_pos c1]
  refine z_if rfl (by first | assumption | (unfold R3; omega)) (fun c => absurd c (by simp only [zcd] <;> omega)) (fun c => ?_)
  refine tt_op rfl rfl ?_
  refine tt_op rfl rfl ?_
  refine tt_op rfl rfl ?_
  refine tt_pS rfl rfl rfl rfl (m_in y (-20) 20 hy ⟨by decide, by decide⟩ ⟨by decide, by decide⟩ _ _) ?_
  by_cases c2 : -20 ≤ y ∧ y ≤ 20
  rotate_left
  · rw [if_neg c2]
    refine z_if rfl (by first | assumption | (unfold R3; omega)) (fun c => ?_) (fun c => absurd (by simp only [zcd] <;> omega) c)
    exact no (fun e => c2 e.2.2.1)
  rw [if_pos c2]
  refine z_if rfl (by first | assumption | (unfold R3; omega)) (fun c => absurd c (by simp only [zcd] <;> omega)) (fun c => ?_)
  refine tt_op rfl rfl ?_
  refine tt_op rfl rfl ?_
  refine tt_op rfl rfl ?_
  refine tt_pS rfl rfl rfl rfl (m_in z (-20) 20 hz ⟨by decide, by decide⟩ ⟨by decide, by decide⟩ _ _) ?_
  by_cases c3 : -20 ≤ z ∧ z ≤ 20
  rotate_left
  · rw [if_neg c3]
    refine z_if rfl (by first | assumption | (unfold R3; omega)) (fun c => ?_) (fun c => absurd (by simp only [zcd] <;> omega) c)
    exact no (fun e => c3 e.2.2.2)
  rw [if_pos c3]
  refine z_if rfl (by first | assumption | (unfold R3; omega)) (fun c => absurd c (by simp only [zcd] <;> omega)) (fun c => ?_)
  refine tt_op rfl rfl ?_
  refine z_if rfl (by first | assumption | (unfold R3; omega)) (fun d1 => ?_) (fun d1 => ?_)
  · simp only [zcd] at d1
    exact yes ⟨Or.inl d1, c1, c2, c3⟩
  simp only [zcd] at d1
  refine tt_op rfl rfl ?_
  refine z_if rfl (by first | assumption | (unfold R3; omega)) (fun d2 => ?_) (fun d2 => ?_)
  · simp only [zcd] at d2
    exact yes ⟨Or.inr (Or.inl d2), c1, c2, c3⟩
  simp only [zcd] at d2
  refine tt_op rfl rfl ?_
  refine z_if rfl (by first | assumption | (unfold R3; omega)) (fun d3 => ?_) (fun d3 => ?_)
  · simp only [zcd] at d3
    exact no (fun e => by rcases e.1 with e | e | e <;> omega)
  · simp only [zcd] at d3
    exact yes ⟨Or.inr (Or.inr d3), c1, c2, c3⟩
set_option maxRecDepth 10000 in
theorem m_lies (hb : pbd P) {p : Nat} (hp : p < 14) (x y z d : Int) (hx : zwi x 20) (hy : zwi y 20) (hz : zwi z 20) (hd : R3 d) : xPure xmX6_lies 1 [.ref 64, zI p, zI x, zI y, zI z, zI d] n (mdH h m P bu tb fl co fa fb fs fr nn lv a fat w cm cX cY cZ cD su sv tu im rk ba go) (zJ (dot (x, y, z) (P p) - d)) := by
  obtain ⟨v1, v2, v3⟩ := hb p hp
  have m2 := mul_bd (A := 20) (B := 20) hy v2
  have m3 := mul_bd (A := 20) (B := 20) hz v3
  have r1 : R3 x := ⟨by have := hx.1; omega, by have := hx.2; omega⟩
  have r2 : R3 (y * (P p).2.1) := ⟨by omega, by omega⟩
  have r3 : R3 (z * (P p).2.2) := ⟨by omega, by omega⟩
  have r4 : R3 (P p).1 := ⟨by omega, by omega⟩
  refine xCall.of xgX6_lies rfl ?_
  refine tt_op rfl rfl ?_
  refine z_il rfl (by first | assumption | (unfold R3; omega)) ?_
  refine tt_op rfl rfl ?_
  refine tt_get rfl md64 (by rfl) ?_
  refine tt_op rfl rfl ?_
  refine z_iald rfl md65 rfl (by omega) (by decide) ?_
  refine z_il rfl (by first | assumption | (unfold R3; omega)) ?_
  refine z_lmul rfl ?_
  refine tt_op rfl rfl ?_
  refine tt_op rfl rfl ?_
  refine tt_get rfl md64 (by rfl) ?_
  refine tt_op rfl rfl ?_
  refine z_iald rfl md66 rfl (by omega) (by decide) ?_
  refine z_imul rfl ?_
  refine z_il rfl (by first | assumption | (unfold R3; omega)) ?_
  refine z_ladd rfl ?_
  refine tt_op rfl rfl ?_
  refine tt_op rfl rfl ?_
  refine tt_get rfl md64 (by rfl) ?_
  refine tt_op rfl rfl ?_
  refine z_iald rfl md67 rfl (by omega) (by decide) ?_
  refine z_imul rfl ?_
  refine z_il rfl (by first | assumption | (unfold R3; omega)) ?_
  refine z_ladd rfl ?_
  refine tt_op rfl rfl ?_
  refine z_il rfl (by first | assumption | (unfold R3; omega)) ?_
  refine z_lsub rfl ?_
  refine tt_lreturn rfl rfl (Nat.le_of_ble_eq_true rfl) (Nat.le_of_ble_eq_true rfl) ?_
  exact ⟨rfl, rfl, rfl⟩
end M8
