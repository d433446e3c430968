/-! The class itself -/
def vup (P : Nat → V3) (k : Nat) (u : V3) : Nat → V3 := fun j => if j = k then u else P j
abbrev soC : xE := .inr (5, [.ref 1, .ref 5, .ref 57, .ref 59, .ref 62])
/-- what the class's cells hold -/
def xSt (h : xHp) (m : Nat) (P : Nat → V3) (c : Nat × (Nat → Int)) (s : St) : Prop :=
  h 0 = some soC ∧ xCl h m P ∧ xHu h m P ∧ (h 57 = some (seC c.1) ∧ h 58 = some (zL 96 c.2) ∧ sOk c) ∧ (h = moH h s ∧ mOk s) ∧ ∃ d lv se me le row, h 62 = some (oC d lv se me le 63) ∧ h 63 = some (zA 14 row)
section SO
variable {h : xHp} {m : Nat} {P : Nat → V3} {n : Nat} {F E CB : Nat} {six : Int} {c : Nat × (Nat → Int)} {s : St}
theorem jnR_bd {f : Nat → FD} : ∀ (k i cb sd : Nat) (b : Nat → Nat), (∀ j, j < i + k → fdV (f j)) → cb < 16384 → (∀ j, j < 14 → b j < 16384) → (jnR f k i cb sd b).1 < 16384 ∧ (jnR f k i cb sd b).2.1 ≤ sd + 14 * k ∧ ∀ j, j < 14 → (jnR f k i cb sd b).2.2 j < 16384
  | 0, i, cb, sd, b, hf, h1, h2 => ⟨h1, by show sd ≤ _; omega, h2⟩
  | k + 1, i, cb, sd, b, hf, h1, h2 => by
    obtain ⟨v1, v2, v3, v4, v5, v6⟩ := hf i (by omega)
    have hbs : ∀ (j k : Nat) (b : Nat → Nat), k + j ≤ 14 → (∀ j, j < 14 → b j < 16384) → ∀ j', j' < 14 → bsK (f i) j k b j' < 16384 := by
      intro j
      induction j with
      | zero => intro k b hk hb; exact hb
      | succ j ih =>
        intro k b hk hb
        refine ih (k + 1) _ (by omega) (fun j' hj' => ?_)
        unfold nup
        split
        · refine bits_or (hb _ (v6 k (by omega))) (bits_pow (v6 _ ?_))
          unfold nxk
          split <;> omega
        · exact hb j' hj'
    have := jnR_bd (f := f) k (i + 1) (cb ||| (f i).2.2.2.1) (sd + (f i).2.2.2.2.1) (bsK (f i) (f i).2.2.2.2.1 0 b) (fun j hj => hf j (by omega)) (bits_or h1 v4) (hbs _ 0 b (by omega) h2)
    refine ⟨this.1, ?_, this.2.2⟩
    have h3 := this.2.1
    show (jnR f k (i + 1) (cb ||| (f i).2.2.2.1) (sd + (f i).2.2.2.2.1) (bsK (f i) (f i).2.2.2.2.1 0 b)).2.1 ≤ _
    omega
theorem hu_bd (H : xHu h m P) : hCB P m < 16384 ∧ hE P m ≤ 168 ∧ ∀ j, j < 14 → hBs P m j < 16384 := by
  obtain ⟨h5, hF, ⟨ad, f, Hf, hfe⟩, -⟩ := H
  have e := jnR_fe (f := f) (g := (blF P m).2) (blF P m).1 0 0 0 (fun _ => 0) (fun j hj => hfe j (by omega))
  have b := jnR_bd (f := f) (blF P m).1 0 0 0 (fun _ => 0) (fun j hj => Hf.2.2.2.2 j (by omega)) (by decide) (fun j hj => by decide)
  rw [e] at b
  refine ⟨b.1, ?_, b.2.2⟩
  have := b.2.1
  unfold hE
  omega
theorem wPt_bd (hb : pbd P) {p q r : Nat} (hp : p < 14) (hq : q < 14) (hr : r < 14) : -400000 ≤ wPt P p q r ∧ wPt P p q r ≤ 400000 := by
  have h1 := vbd_sub (hb 0 (by omega)) (hb p hp)
  have h2 := vbd_cr (vbd_sub (hb q hq) (hb p hp)) (vbd_sub (hb r hr) (hb p hp))
  have h3 := dot_bd h1 h2
  unfold wPt bxs swg
  omega
theorem wgK_bd (hb : pbd P) {x : FD} (hx : fdV x) : ∀ (j k : Nat) (s : Int) (mo : Nat → Int) (A : Int), (j = 0 ∨ (1 ≤ k ∧ k + j ≤ 14)) → (-A ≤ s ∧ s ≤ A) → (∀ i, i < 3 → -(80 * A) ≤ mo i ∧ mo i ≤ 80 * A) → (-(A + 400000 * j) ≤ (wgK P x j k s mo).1 ∧ (wgK P x j k s mo).1 ≤ A + 400000 * j) ∧ ∀ i, i < 3 → -(80 * (A + 400000 * j)) ≤ (wgK P x j k s mo).2 i ∧ (wgK P x j k s mo).2 i ≤ 80 * (A + 400000 * j)
  | 0, k, s, mo, A, hk, hs, hm => by
    refine ⟨?_, fun i hi => ?_⟩
    · show -(A + 400000 * ((0 : Nat) : Int)) ≤ s ∧ s ≤ _; omega
    · have := hm i hi
      show -(80 * (A + 400000 * ((0 : Nat) : Int))) ≤ mo i ∧ mo i ≤ _
      omega
  | j + 1, k, s, mo, A, hk, hs, hm => by
    have r0 := hx.2.2.2.2.2 0 (by omega)
    have r1 := hx.2.2.2.2.2 (k - 1) (by omega)
    have r2 := hx.2.2.2.2.2 k (by omega)
    have hw := wPt_bd hb r0 r1 r2
    have := wgK_bd hb hx j (k + 1) (s + wPt P (x.2.2.2.2.2 0) (x.2.2.2.2.2 (k - 1)) (x.2.2.2.2.2 k)) (wMo P (x.2.2.2.2.2 0) (x.2.2.2.2.2 (k - 1)) (x.2.2.2.2.2 k) mo) (A + 400000) (by omega) (by omega) (fun i hi => by
      have a0 := vax_bd (hb _ r0) i
      have a1 := vax_bd (hb _ r1) i
      have a2 := vax_bd (hb _ r2) i
      have a3 := vax_bd (hb 0 (by omega)) i
      have hm' := hm i hi
      have hp := mul_bd (A := 400000) (B := 80) (a := wPt P (x.2.2.2.2.2 0) (x.2.2.2.2.2 (k - 1)) (x.2.2.2.2.2 k)) (b := vax (P (x.2.2.2.2.2 0)) i + vax (P (x.2.2.2.2.2 (k - 1))) i + vax (P (x.2.2.2.2.2 k)) i + vax (P 0) i) hw (by omega)
      unfold wMo
      rw [if_pos hi]
      omega)
    refine ⟨?_, fun i hi => ?_⟩
    · have t := this.1
      show -(A + 400000 * ((j + 1 : Nat) : Int)) ≤ (wgK P x j (k + 1) _ _).1 ∧ (wgK P x j (k + 1) _ _).1 ≤ _
      omega
    · have t := this.2 i hi
      show -(80 * (A + 400000 * ((j + 1 : Nat) : Int))) ≤ (wgK P x j (k + 1) _ _).2 i ∧ (wgK P x j (k + 1) _ _).2 i ≤ _
      omega
theorem wgR_bd (hb : pbd P) {f : Nat → FD} : ∀ (k i : Nat) (s : Int) (mo : Nat → Int) (A : Int), (∀ j, j < i + k → fdV (f j)) → (-A ≤ s ∧ s ≤ A) → (∀ i, i < 3 → -(80 * A) ≤ mo i ∧ mo i ≤ 80 * A) → (-(A + 4800000 * k) ≤ (wgR P f k i s mo).1 ∧ (wgR P f k i s mo).1 ≤ A + 4800000 * k) ∧ ∀ j, j < 3 → -(80 * (A + 4800000 * k)) ≤ (wgR P f k i s mo).2 j ∧ (wgR P f k i s mo).2 j ≤ 80 * (A + 4800000 * k)
  | 0, i, s, mo, A, hf, hs, hm => by
    refine ⟨?_, fun i hi => ?_⟩
    · show -(A + 4800000 * ((0 : Nat) : Int)) ≤ s ∧ s ≤ _; omega
    · have := hm i hi
      show -(80 * (A + 4800000 * ((0 : Nat) : Int))) ≤ mo i ∧ mo i ≤ _
      omega
  | k + 1, i, s, mo, A, hf, hs, hm => by
    have v := hf i (by omega)
    have v5 := v.2.2.2.2.1
    have b1 := wgK_bd hb v ((f i).2.2.2.2.1 - 2) 2 s mo A (by omega) hs hm
    have b2 := wgR_bd hb (f := f) k (i + 1) (wgK P (f i) ((f i).2.2.2.2.1 - 2) 2 s mo).1 (wgK P (f i) ((f i).2.2.2.2.1 - 2) 2 s mo).2 (A + 4800000) (fun j hj => hf j (by omega)) (by omega) (fun j hj => by have := b1.2 j hj; omega)
    refine ⟨?_, fun j hj => ?_⟩
    · have t := b2.1
      show -(A + 4800000 * ((k + 1 : Nat) : Int)) ≤ (wgR P f k (i + 1) _ _).1 ∧ (wgR P f k (i + 1) _ _).1 ≤ _
      omega
    · have t := b2.2 j hj
      show -(80 * (A + 4800000 * ((k + 1 : Nat) : Int))) ≤ (wgR P f k (i + 1) _ _).2 j ∧ (wgR P f k (i + 1) _ _).2 j ≤ _
      omega
theorem hu_six (hb : pbd P) (H : xHu h m P) : (-1000000000 ≤ hSix P m ∧ hSix P m ≤ 1000000000) ∧ ∀ j, j < 3 → -100000000000 ≤ hMo P m j ∧ hMo P m j ≤ 100000000000 := by
  obtain ⟨h5, hF, ⟨ad, f, Hf, hfe⟩, -⟩ := H
  have e := wgR_fe (P := P) (f := f) (g := (blF P m).2) (blF P m).1 0 0 (fun _ => 0) (fun j hj => hfe j (by omega))
  have b := wgR_bd hb (f := f) (blF P m).1 0 0 (fun _ => 0) 0 (fun j hj => Hf.2.2.2.2 j (by omega)) (by omega) (fun i hi => by omega)
  rw [e] at b
  unfold hSix hMo
  refine ⟨by have := b.1; omega, fun j hj => by have := b.2 j hj; omega⟩
set_option maxRecDepth 10000 in
theorem c_stands_y (h0 : h 0 = some soC) (h5 : h 5 = some (huC F E CB six)) (hF : F ≤ 24) (hp : 0 < F) : xPure xmX5_stands 1 [.ref 0] n h (zI 1) := by
  refine xCall.of xgX5_stands rfl ?_
  refine tt_op rfl rfl ?_
  refine tt_get rfl (by assumption) (by rfl) ?_
  refine tt_get rfl (by assumption) (by rfl) ?_
  refine z_if rfl (by first | assumption | (unfold R3; omega)) (fun c => absurd c (by simp only [zcd] <;> omega)) (fun c => ?_)
  refine tt_op rfl rfl ?_
  refine tt_goto rfl ?_
  refine tt_ireturn rfl rfl (by rfl) (Nat.le_of_ble_eq_true rfl) (Nat.le_of_ble_eq_true rfl) ?_
  exact ⟨rfl, rfl, rfl⟩
set_option maxRecDepth 10000 in
theorem c_stands_n (h0 : h 0 = some soC) (h5 : h 5 = some (huC F E CB six)) (hF : F ≤ 24) (hp : ¬ 0 < F) : xPure xmX5_stands 1 [.ref 0] n h (zI 0) := by
  refine xCall.of xgX5_stands rfl ?_
  refine tt_op rfl rfl ?_
  refine tt_get rfl (by assumption) (by rfl) ?_
  refine tt_get rfl (by assumption) (by rfl) ?_
  refine z_if rfl (by first | assumption | (unfold R3; omega)) (fun c => ?_) (fun c => absurd (by simp only [zcd] <;> omega) c)
  refine tt_op rfl rfl ?_
  refine tt_ireturn rfl rfl (by rfl) (Nat.le_of_ble_eq_true rfl) (Nat.le_of_ble_eq_true rfl) ?_
  exact ⟨rfl, rfl, rfl⟩
set_option maxRecDepth 10000 in
theorem c_flat (H : xSt h m P c s) : xPure xmX5_flat 100 [.ref 0] n h (zI (if 0 < (blF P m).1 then 0 else 1)) := by
  obtain ⟨h0, -, ⟨h5, hF, -⟩, -⟩ := H
  refine xCall.of xgX5_flat rfl ?_
  refine tt_op rfl rfl ?_
  by_cases hp : 0 < (blF P m).1
  · refine tt_pV rfl rfl rfl h0 rfl (c_stands_y h0 h5 hF hp) ?_
    rw [if_pos hp]
    refine z_if rfl (by first | assumption | (unfold R3; omega)) (fun c => ?_) (fun c => absurd (by simp only [zcd] <;> omega) c)
    refine tt_op rfl rfl ?_
    refine tt_ireturn rfl rfl (by rfl) (Nat.le_of_ble_eq_true rfl) (Nat.le_of_ble_eq_true rfl) ?_
    exact ⟨rfl, rfl, rfl⟩
  · refine tt_pV rfl rfl rfl h0 rfl (c_stands_n h0 h5 hF hp) ?_
    rw [if_neg hp]
    refine z_if rfl (by first | assumption | (unfold R3; omega)) (fun c => absurd c (by simp only [zcd] <;> omega)) (fun c => ?_)
    refine tt_op rfl rfl ?_
    refine tt_goto rfl ?_
    refine tt_ireturn rfl rfl (by rfl) (Nat.le_of_ble_eq_true rfl) (Nat.le_of_ble_eq_true rfl) ?_
    exact ⟨rfl, rfl, rfl⟩
set_option maxRecDepth 10000 in
theorem c_corners (H : xSt h m P c s) : xPure xmX5_corners 100 [.ref 0] n h (zI (if 0 < (blF P m).1 then (hCB P m : Int) else -3)) := by
  obtain ⟨h0, -, ⟨h5, hF, -⟩, -⟩ := H
  refine xCall.of xgX5_corners rfl ?_
  refine tt_op rfl rfl ?_
  by_cases hp : 0 < (blF P m).1
  · refine tt_pV rfl rfl rfl h0 rfl (c_stands_y h0 h5 hF hp) ?_
    rw [if_pos hp]
    refine z_if rfl (by first | assumption | (unfold R3; omega)) (fun c => absurd c (by simp only [zcd] <;> omega)) (fun c => ?_)
    refine tt_op rfl rfl ?_
    refine tt_get rfl (by assumption) (by rfl) ?_
    refine tt_get rfl (by assumption) (by rfl) ?_
    refine tt_goto rfl ?_
    refine tt_ireturn rfl rfl (by rfl) (Nat.le_of_ble_eq_true rfl) (Nat.le_of_ble_eq_true rfl) ?_
    exact ⟨rfl, rfl, rfl⟩
  · refine tt_pV rfl rfl rfl h0 rfl (c_stands_n h0 h5 hF hp) ?_
    rw [if_neg hp]
    refine z_if rfl (by first | assumption | (unfold R3; omega)) (fun c => ?_) (fun c => absurd (by simp only [zcd] <;> omega) c)
    refine tt_op rfl rfl ?_
    refine tt_ireturn rfl rfl (by rfl) (Nat.le_of_ble_eq_true rfl) (Nat.le_of_ble_eq_true rfl) ?_
    exact ⟨rfl, rfl, rfl⟩
set_option maxRecDepth 10000 in
theorem c_edges (H : xSt h m P c s) : xPure xmX5_edges 100 [.ref 0] n h (zI (if 0 < (blF P m).1 then (hE P m : Int) else -3)) := by
  obtain ⟨h0, -, ⟨h5, hF, -⟩, -⟩ := H
  refine xCall.of xgX5_edges rfl ?_
  refine tt_op rfl rfl ?_
  by_cases hp : 0 < (blF P m).1
  · refine tt_pV rfl rfl rfl h0 rfl (c_stands_y h0 h5 hF hp) ?_
    rw [if_pos hp]
    refine z_if rfl (by first | assumption | (unfold R3; omega)) (fun c => absurd c (by simp only [zcd] <;> omega)) (fun c => ?_)
    refine tt_op rfl rfl ?_
    refine tt_get rfl (by assumption) (by rfl) ?_
    refine tt_get rfl (by assumption) (by rfl) ?_
    refine tt_goto rfl ?_
    refine tt_ireturn rfl rfl (by rfl) (Nat.le_of_ble_eq_true rfl) (Nat.le_of_ble_eq_true rfl) ?_
    exact ⟨rfl, rfl, rfl⟩
  · refine tt_pV rfl rfl rfl h0 rfl (c_stands_n h0 h5 hF hp) ?_
    rw [if_neg hp]
    refine z_if rfl (by first | assumption | (unfold R3; omega)) (fun c => ?_) (fun c => absurd (by simp only [zcd] <;> omega) c)
    refine tt_op rfl rfl ?_
    refine tt_ireturn rfl rfl (by rfl) (Nat.le_of_ble_eq_true rfl) (Nat.le_of_ble_eq_true rfl) ?_
    exact ⟨rfl, rfl, rfl⟩
set_option maxRecDepth 10000 in
theorem c_faces (H : xSt h m P c s) : xPure xmX5_faces 100 [.ref 0] n h (zI (if 0 < (blF P m).1 then ((blF P m).1 : Int) else -3)) := by
  obtain ⟨h0, -, ⟨h5, hF, -⟩, -⟩ := H
  refine xCall.of xgX5_faces rfl ?_
  refine tt_op rfl rfl ?_
  by_cases hp : 0 < (blF P m).1
  · refine tt_pV rfl rfl rfl h0 rfl (c_stands_y h0 h5 hF hp) ?_
    rw [if_pos hp]
    refine z_if rfl (by first | assumption | (unfold R3; omega)) (fun c => absurd c (by simp only [zcd] <;> omega)) (fun c => ?_)
    refine tt_op rfl rfl ?_
    refine tt_get rfl (by assumption) (by rfl) ?_
    refine tt_get rfl (by assumption) (by rfl) ?_
    refine tt_goto rfl ?_
    refine tt_ireturn rfl rfl (by rfl) (Nat.le_of_ble_eq_true rfl) (Nat.le_of_ble_eq_true rfl) ?_
    exact ⟨rfl, rfl, rfl⟩
  · refine tt_pV rfl rfl rfl h0 rfl (c_stands_n h0 h5 hF hp) ?_
    rw [if_neg hp]
    refine z_if rfl (by first | assumption | (unfold R3; omega)) (fun c => ?_) (fun c => absurd (by simp only [zcd] <;> omega) c)
    refine tt_op rfl rfl ?_
    refine tt_ireturn rfl rfl (by rfl) (Nat.le_of_ble_eq_true rfl) (Nat.le_of_ble_eq_true rfl) ?_
    exact ⟨rfl, rfl, rfl⟩
set_option maxRecDepth 10000 in
theorem c_volume (H : xSt h m P c s) : xPure xmX5_volume 100 [.ref 0] n h (zJ (if 0 < (blF P m).1 then hSix P m else -1000000000000)) := by
  obtain ⟨h0, -, ⟨h5, hF, -⟩, -⟩ := H
  refine xCall.of xgX5_volume rfl ?_
  refine tt_op rfl rfl ?_
  by_cases hp : 0 < (blF P m).1
  · refine tt_pV rfl rfl rfl h0 rfl (c_stands_y h0 h5 hF hp) ?_
    rw [if_pos hp]
    refine z_if rfl (by first | assumption | (unfold R3; omega)) (fun c => absurd c (by simp only [zcd] <;> omega)) (fun c => ?_)
    refine tt_op rfl rfl ?_
    refine tt_get rfl (by assumption) (by rfl) ?_
    refine tt_get rfl (by assumption) (by rfl) ?_
    refine tt_goto rfl ?_
    refine tt_lreturn rfl rfl (Nat.le_of_ble_eq_true rfl) (Nat.le_of_ble_eq_true rfl) ?_
    exact ⟨rfl, rfl, rfl⟩
  · refine tt_pV rfl rfl rfl h0 rfl (c_stands_n h0 h5 hF hp) ?_
    rw [if_neg hp]
    refine z_if rfl (by first | assumption | (unfold R3; omega)) (fun c => ?_) (fun c => absurd (by simp only [zcd] <;> omega) c)
    refine tt_op rfl rfl ?_
    refine tt_lreturn rfl rfl (Nat.le_of_ble_eq_true rfl) (Nat.le_of_ble_eq_true rfl) ?_
    exact ⟨rfl, rfl, rfl⟩
/-- a row's length -/
abbrev fLen (P : Nat → V3) (m i : Nat) : Nat := ((blF P m).2 i).2.2.2.2.1
abbrev fRow (P : Nat → V3) (m i k : Nat) : Nat := ((blF P m).2 i).2.2.2.2.2 k
set_option maxRecDepth 10000 in
theorem c_size (H : xSt h m P c s) (x : Int) (hx : R3 x) : xPure xmX5_size 100 [.ref 0, zI x] n h (zI (if 0 < (blF P m).1 then (if 0 ≤ x ∧ x < (blF P m).1 then (fLen P m x.toNat : Int) else -1) else -3)) := by
  obtain ⟨h0, -, ⟨h5, hF, ⟨ad, f, Hf, hfe⟩, -⟩, -⟩ := H
  refine xCall.of xgX5_size rfl ?_
  refine tt_op rfl rfl ?_
  by_cases hp : 0 < (blF P m).1
  · refine tt_pV rfl rfl rfl h0 rfl (c_stands_y h0 h5 hF hp) ?_
    rw [if_pos hp]
    refine z_if rfl (by first | assumption | (unfold R3; omega)) (fun c => ?_) (fun c => absurd (by simp only [zcd] <;> omega) c)
    refine tt_op rfl rfl ?_
    refine tt_get rfl (by assumption) (by rfl) ?_
    refine tt_op rfl rfl ?_
    by_cases hq : 0 ≤ x ∧ x < (blF P m).1
    · refine tt_pV rfl rfl rfl h5 rfl (c_hasFace h5 hF x hx (zI 1) (fun _ => rfl) (fun z => absurd hq z)) ?_
      rw [if_pos hq]
      obtain ⟨⟨rd, g6, grd⟩, gA, gI, gC, gV⟩ := Hf
      have c1 := (gC x.toNat (by omega)).1
      have e := (hfe x.toNat (by omega)).2.2.2.2.1
      refine z_if rfl (by first | assumption | (unfold R3; omega)) (fun c => absurd c (by simp only [zcd] <;> omega)) (fun c => ?_)
      refine tt_op rfl rfl ?_
      refine tt_get rfl (by assumption) (by rfl) ?_
      refine tt_get rfl (by assumption) (by rfl) ?_
      refine tt_op rfl rfl ?_
      refine z_aald (j := x.toNat) rfl g6 (by omega) (by omega) (by decide) (grd x.toNat (by omega)) ?_
      refine tt_get rfl (by assumption) (by rfl) ?_
      refine tt_goto rfl ?_
      refine tt_ireturn rfl rfl (by rfl) (Nat.le_of_ble_eq_true rfl) (Nat.le_of_ble_eq_true rfl) ?_
      unfold fLen
      rw [e]
      exact ⟨rfl, rfl, rfl⟩
    · refine tt_pV rfl rfl rfl h5 rfl (c_hasFace h5 hF x hx (zI 0) (fun z => absurd z hq) (fun _ => rfl)) ?_
      rw [if_neg hq]
      refine z_if rfl (by first | assumption | (unfold R3; omega)) (fun c => ?_) (fun c => absurd (by simp only [zcd] <;> omega) c)
      refine tt_op rfl rfl ?_
      refine tt_ireturn rfl rfl (by rfl) (Nat.le_of_ble_eq_true rfl) (Nat.le_of_ble_eq_true rfl) ?_
      exact ⟨rfl, rfl, rfl⟩
  · refine tt_pV rfl rfl rfl h0 rfl (c_stands_n h0 h5 hF hp) ?_
    rw [if_neg hp]
    refine z_if rfl (by first | assumption | (unfold R3; omega)) (fun c => absurd c (by simp only [zcd] <;> omega)) (fun c => ?_)
    refine tt_op rfl rfl ?_
    refine tt_ireturn rfl rfl (by rfl) (Nat.le_of_ble_eq_true rfl) (Nat.le_of_ble_eq_true rfl) ?_
    exact ⟨rfl, rfl, rfl⟩
set_option maxRecDepth 10000 in
theorem c_at (H : xSt h m P c s) (x y : Int) (hx : R3 x) (hy : R3 y) : xPure xmX5_at 100 [.ref 0, zI x, zI y] n h (zI (if 0 < (blF P m).1 then (if (0 ≤ x ∧ x < (blF P m).1) ∧ 0 ≤ y ∧ y < fLen P m x.toNat then (fRow P m x.toNat y.toNat : Int) else -1) else -3)) := by
  obtain ⟨h0, -, ⟨h5, hF, ⟨ad, f, Hf, hfe⟩, -⟩, -⟩ := H
  refine xCall.of xgX5_at rfl ?_
  have no : ∀ l, xT xmX5_at (100, 0, 0, 0, 0) 41 l [] n h (fun r n' h' => r = some (zI (-1)) ∧ n' = n ∧ h' = h) := by
    intro l
    refine tt_op rfl rfl ?_
    refine tt_ireturn rfl rfl (by rfl) (Nat.le_of_ble_eq_true rfl) (Nat.le_of_ble_eq_true rfl) ?_
    exact ⟨rfl, rfl, rfl⟩
  refine tt_op rfl rfl ?_
  by_cases hp : 0 < (blF P m).1
  · refine tt_pV rfl rfl rfl h0 rfl (c_stands_y h0 h5 hF hp) ?_
    rw [if_pos hp]
    refine z_if rfl (by first | assumption | (unfold R3; omega)) (fun c => ?_) (fun c => absurd (by simp only [zcd] <;> omega) c)
    refine tt_op rfl rfl ?_
    refine tt_get rfl (by assumption) (by rfl) ?_
    refine tt_op rfl rfl ?_
    by_cases hq : 0 ≤ x ∧ x < (blF P m).1
    · refine tt_pV rfl rfl rfl h5 rfl (c_hasFace h5 hF x hx (zI 1) (fun _ => rfl) (fun z => absurd hq z)) ?_
      obtain ⟨⟨rd, g6, grd⟩, gA, gI, gC, gV⟩ := Hf
      have c1 := (gC x.toNat (by omega)).1
      have c2 := (gC x.toNat (by omega)).2
      have e := (hfe x.toNat (by omega)).2.2.2.2.1
      have e2 := (hfe x.toNat (by omega)).2.2.2.2.2
      have v5 := (gV x.toNat (by omega)).2.2.2.2.1
      unfold fLen fRow
      rw [← e]
      refine z_if rfl (by first | assumption | (unfold R3; omega)) (fun c => absurd c (by simp only [zcd] <;> omega)) (fun c => ?_)
      refine tt_op rfl rfl ?_
      refine z_if rfl (by first | assumption | (unfold R3; omega)) (fun cc => ?_) (fun cc => ?_)
      · simp only [zcd] at cc
        rw [if_neg (by omega)]
        exact no _
      simp only [zcd] at cc
      refine tt_op rfl rfl ?_
      refine tt_op rfl rfl ?_
      refine tt_get rfl (by assumption) (by rfl) ?_
      refine tt_get rfl (by assumption) (by rfl) ?_
      refine tt_op rfl rfl ?_
      refine z_aald (j := x.toNat) rfl g6 (by omega) (by omega) (by decide) (grd x.toNat (by omega)) ?_
      refine tt_get rfl (by assumption) (by rfl) ?_
      refine z_icmp rfl (by first | assumption | (unfold R3; omega)) (by first | assumption | (unfold R3; omega)) (fun c3 => ?_) (fun c3 => ?_)
      · simp only [zcd] at c3
        rw [if_pos (by omega), ← e2 y.toNat (by omega)]
        refine tt_op rfl rfl ?_
        refine tt_get rfl (by assumption) (by rfl) ?_
        refine tt_get rfl (by assumption) (by rfl) ?_
        refine tt_op rfl rfl ?_
        refine z_aald (j := x.toNat) rfl g6 (by omega) (by omega) (by decide) (grd x.toNat (by omega)) ?_
        refine tt_get rfl (by assumption) (by rfl) ?_
        refine tt_op rfl rfl ?_
        refine z_iald (j := y.toNat) rfl c2 (by omega) (by omega) (by decide) ?_
        refine tt_ireturn rfl rfl (by rfl) (Nat.le_of_ble_eq_true rfl) (Nat.le_of_ble_eq_true rfl) ?_
        exact ⟨rfl, rfl, rfl⟩
      · simp only [zcd] at c3
        rw [if_neg (by omega)]
        exact no _
    · refine tt_pV rfl rfl rfl h5 rfl (c_hasFace h5 hF x hx (zI 0) (fun z => absurd z hq) (fun _ => rfl)) ?_
      rw [if_neg (fun z => hq z.1)]
      refine z_if rfl (by first | assumption | (unfold R3; omega)) (fun c => ?_) (fun c => absurd (by simp only [zcd] <;> omega) c)
      exact no _
  · refine tt_pV rfl rfl rfl h0 rfl (c_stands_n h0 h5 hF hp) ?_
    rw [if_neg hp]
    refine z_if rfl (by first | assumption | (unfold R3; omega)) (fun c => absurd c (by simp only [zcd] <;> omega)) (fun c => ?_)
    refine tt_op rfl rfl ?_
    refine tt_ireturn rfl rfl (by rfl) (Nat.le_of_ble_eq_true rfl) (Nat.le_of_ble_eq_true rfl) ?_
    exact ⟨rfl, rfl, rfl⟩
def nmW (x : FD) (w : Int) : Int := if w = 0 then x.1.1 else if w = 1 then x.1.2.1 else if w = 2 then x.1.2.2 else if w = 3 then x.2.1 else -1000000000000
set_option maxRecDepth 10000 in
theorem c_normal (H : xSt h m P c s) (x y : Int) (hx : R3 x) (hy : R3 y) : xPure xmX5_normal 100 [.ref 0, zI x, zI y] n h (zJ (if 0 < (blF P m).1 ∧ 0 ≤ x ∧ x < (blF P m).1 then nmW ((blF P m).2 x.toNat) y else -1000000000000)) := by
  obtain ⟨h0, -, ⟨h5, hF, ⟨ad, f, Hf, hfe⟩, -⟩, -⟩ := H
  refine xCall.of xgX5_normal rfl ?_
  have no : ∀ l, xT xmX5_normal (100, 0, 0, 0, 0) 18 l [] n h (fun r n' h' => r = some (zJ (-1000000000000)) ∧ n' = n ∧ h' = h) := by
    intro l
    refine tt_op rfl rfl ?_
    refine tt_lreturn rfl rfl (Nat.le_of_ble_eq_true rfl) (Nat.le_of_ble_eq_true rfl) ?_
    exact ⟨rfl, rfl, rfl⟩
  refine tt_op rfl rfl ?_
  by_cases hp : 0 < (blF P m).1
  · refine tt_pV rfl rfl rfl h0 rfl (c_stands_y h0 h5 hF hp) ?_
    refine z_if rfl (by first | assumption | (unfold R3; omega)) (fun c => absurd c (by simp only [zcd] <;> omega)) (fun c => ?_)
    refine tt_op rfl rfl ?_
    refine tt_get rfl (by assumption) (by rfl) ?_
    refine tt_op rfl rfl ?_
    by_cases hq : 0 ≤ x ∧ x < (blF P m).1
    · refine tt_pV rfl rfl rfl h5 rfl (c_hasFace h5 hF x hx (zI 1) (fun _ => rfl) (fun z => absurd hq z)) ?_
      rw [if_pos ⟨hp, hq⟩]
      obtain ⟨⟨rd, g6, grd⟩, gA, gI, gC, gV⟩ := Hf
      have c1 := (gC x.toNat (by omega)).1
      obtain ⟨e1, e2, -⟩ := hfe x.toNat (by omega)
      have ew : nmW ((blF P m).2 x.toNat) y = nmW (f x.toNat) y := by unfold nmW; rw [← e1, ← e2]
      rw [ew]
      refine z_if rfl (by first | assumption | (unfold R3; omega)) (fun c => ?_) (fun c => absurd (by simp only [zcd] <;> omega) c)
      refine tt_op rfl rfl ?_
      refine tt_get rfl (by assumption) (by rfl) ?_
      refine tt_get rfl (by assumption) (by rfl) ?_
      refine tt_op rfl rfl ?_
      refine z_aald (j := x.toNat) rfl g6 (by omega) (by omega) (by decide) (grd x.toNat (by omega)) ?_
      refine tt_op rfl rfl ?_
      refine tt_op rfl rfl ?_
      unfold nmW
      by_cases w0 : y = 0
      · subst w0
        rw [if_pos rfl]
        refine tt_swIn (tgt := 64) rfl (by decide) (by decide) rfl (by decide) ?_
        refine tt_op rfl rfl ?_
        refine tt_get rfl (by assumption) (by rfl) ?_
        refine tt_lreturn rfl rfl (Nat.le_of_ble_eq_true rfl) (Nat.le_of_ble_eq_true rfl) ?_
        exact ⟨rfl, rfl, rfl⟩
      rw [if_neg w0]
      by_cases w1 : y = 1
      · subst w1
        rw [if_pos rfl]
        refine tt_swIn (tgt := 69) rfl (by decide) (by decide) rfl (by decide) ?_
        refine tt_op rfl rfl ?_
        refine tt_get rfl (by assumption) (by rfl) ?_
        refine tt_lreturn rfl rfl (Nat.le_of_ble_eq_true rfl) (Nat.le_of_ble_eq_true rfl) ?_
        exact ⟨rfl, rfl, rfl⟩
      rw [if_neg w1]
      by_cases w2 : y = 2
      · subst w2
        rw [if_pos rfl]
        refine tt_swIn (tgt := 74) rfl (by decide) (by decide) rfl (by decide) ?_
        refine tt_op rfl rfl ?_
        refine tt_get rfl (by assumption) (by rfl) ?_
        refine tt_lreturn rfl rfl (Nat.le_of_ble_eq_true rfl) (Nat.le_of_ble_eq_true rfl) ?_
        exact ⟨rfl, rfl, rfl⟩
      rw [if_neg w2]
      by_cases w3 : y = 3
      · subst w3
        rw [if_pos rfl]
        refine tt_swIn (tgt := 79) rfl (by decide) (by decide) rfl (by decide) ?_
        refine tt_op rfl rfl ?_
        refine tt_get rfl (by assumption) (by rfl) ?_
        refine tt_lreturn rfl rfl (Nat.le_of_ble_eq_true rfl) (Nat.le_of_ble_eq_true rfl) ?_
        exact ⟨rfl, rfl, rfl⟩
      rw [if_neg w3]
      refine tt_swOut (tgt := 84) rfl (by rw [hy.t]; omega) (by decide) ?_
      refine tt_op rfl rfl ?_
      refine tt_lreturn rfl rfl (Nat.le_of_ble_eq_true rfl) (Nat.le_of_ble_eq_true rfl) ?_
      exact ⟨rfl, rfl, rfl⟩
    · refine tt_pV rfl rfl rfl h5 rfl (c_hasFace h5 hF x hx (zI 0) (fun z => absurd z hq) (fun _ => rfl)) ?_
      rw [if_neg (fun z => hq z.2)]
      refine z_if rfl (by first | assumption | (unfold R3; omega)) (fun c => absurd c (by simp only [zcd] <;> omega)) (fun c => ?_)
      exact no _
  · refine tt_pV rfl rfl rfl h0 rfl (c_stands_n h0 h5 hF hp) ?_
    rw [if_neg (fun z => hp z.1)]
    refine z_if rfl (by first | assumption | (unfold R3; omega)) (fun c => ?_) (fun c => absurd (by simp only [zcd] <;> omega) c)
    exact no _
end SO
