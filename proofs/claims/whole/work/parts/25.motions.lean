/-! The motions -/
abbrev moC (cnt : Nat) : xE := .inr (2, [.ref 5, zI cnt, .ref 60, .ref 61])
abbrev St : Type := Nat × (Nat → Nat) × (Nat → Nat)
abbrev moH (h : xHp) (s : St) : xHp := xup (xup (xup h 61 (bA s.2.2)) 60 (zA 672 fun j => (s.2.1 j : Int))) 59 (moC s.1)
def mOk (s : St) : Prop := s.1 ≤ 48 ∧ (∀ j, j < 672 → s.2.1 j < 14) ∧ ∀ j, j < 14 → s.2.2 j < 14
theorem moH_n {h : xHp} {s : St} {j : Nat} (h1 : j ≠ 59) (h2 : j ≠ 60) (h3 : j ≠ 61) : moH h s j = h j := by
  show xup (xup (xup h 61 (bA s.2.2)) 60 _) 59 (moC s.1) j = h j
  rw [xup_n h1, xup_n h2, xup_n h3]
theorem moH_59 {h : xHp} {s : St} : moH h s 59 = some (moC s.1) := xup_s
theorem moH_60 {h : xHp} {s : St} : moH h s 60 = some (zA 672 fun j => (s.2.1 j : Int)) := by
  show xup (xup (xup h 61 (bA s.2.2)) 60 _) 59 (moC s.1) 60 = _
  rw [xup_n (by omega)]; exact xup_s
theorem moH_61 {h : xHp} {s : St} : moH h s 61 = some (bA s.2.2) := by
  show xup (xup (xup h 61 (bA s.2.2)) 60 _) 59 (moC s.1) 61 = _
  rw [xup_n (by omega), xup_n (by omega)]; exact xup_s
section MO
variable {h : xHp} {m : Nat} {P : Nat → V3} {n : Nat} {F E CB : Nat} {six : Int}
theorem xCl_mo {s : St} (HC : xCl h m P) : xCl (moH h s) m P := xCl_up (by omega) (xCl_up (by omega) (xCl_up (by omega) HC))
set_option maxRecDepth 10000 in
theorem c_image (s : St) (i co : Nat) (hi : i < 48) (hc : co < 14) : xPure xmX2_image 2 [.ref 59, zI i, zI co] n (moH h s) (zI (s.2.1 (14 * i + co))) := by
  have h59 := moH_59 (h := h) (s := s)
  have h60 := moH_60 (h := h) (s := s)
  refine xCall.of xgX2_image rfl ?_
  refine tt_op rfl rfl ?_
  refine z_if rfl (by first | assumption | (unfold R3; omega)) (fun c => absurd c (by simp only [zcd] <;> omega)) (fun c => ?_)
  refine tt_op rfl rfl ?_
  refine tt_op rfl rfl ?_
  refine z_icmp rfl (by first | assumption | (unfold R3; omega)) (by first | assumption | (unfold R3; omega)) (fun c => absurd c (by simp only [zcd] <;> omega)) (fun c => ?_)
  refine tt_op rfl rfl ?_
  refine tt_pS rfl rfl rfl rfl (c_isPoint co hc _ _) ?_
  refine z_if rfl (by first | assumption | (unfold R3; omega)) (fun c => absurd c (by simp only [zcd] <;> omega)) (fun c => ?_)
  refine tt_op rfl rfl ?_
  refine tt_get rfl h59 (by rfl) ?_
  refine tt_op rfl rfl ?_
  refine tt_op rfl rfl ?_
  refine z_imul rfl ?_
  refine tt_op rfl rfl ?_
  refine z_iadd rfl ?_
  refine z_iald (j := 14 * i + co) rfl h60 (by omega) (by omega) (by decide) ?_
  refine tt_goto rfl ?_
  refine tt_ireturn rfl rfl (by rfl) (Nat.le_of_ble_eq_true rfl) (Nat.le_of_ble_eq_true rfl) ?_
  exact ⟨rfl, rfl, rfl⟩
/-- one symmetry is kept -/
def kpS (s : St) : St := if s.1 < 48 then (s.1 + 1, va_cpy s.2.2 s.2.1 0 (14 * s.1) 14, s.2.2) else s
theorem cpy_n (F G : Nat → Nat) (a b c : Nat) : va_cpy (fun j => (F j : Int)) (fun j => (G j : Int)) a b c = fun j => ((va_cpy F G a b c j : Nat) : Int) := by
  funext j
  unfold va_cpy
  split <;> rfl
theorem kpS_ok {s : St} (hs : mOk s) : mOk (kpS s) := by
  obtain ⟨s1, s2, s3⟩ := hs
  unfold kpS
  split
  · refine ⟨by show s.1 + 1 ≤ 48; omega, fun j hj => ?_, s3⟩
    show va_cpy s.2.2 s.2.1 0 (14 * s.1) 14 j < 14
    unfold va_cpy
    split
    · exact s3 _ (by omega)
    · exact s2 j hj
  · exact ⟨s1, s2, s3⟩
set_option maxRecDepth 10000 in
theorem c_keep (s : St) (hs : s.1 ≤ 48) : xCall xmX2_keep 2 0 0 [.ref 59] n (moH h s) (fun r n' h' => r = none ∧ n' = n ∧ h' = moH h (kpS s)) := by
  have h59 := moH_59 (h := h) (s := s)
  have h60 := moH_60 (h := h) (s := s)
  have h61 := moH_61 (h := h) (s := s)
  refine xCall.of xgX2_keep rfl ?_
  refine tt_op rfl rfl ?_
  refine tt_get rfl (by assumption) (by rfl) ?_
  refine z_if rfl (by first | assumption | (unfold R3; omega)) (fun c => absurd c (by simp only [zcd] <;> omega)) (fun c => ?_)
  refine tt_op rfl rfl ?_
  refine tt_get rfl (by assumption) (by rfl) ?_
  refine tt_op rfl rfl ?_
  refine z_icmp rfl (by first | assumption | (unfold R3; omega)) (by first | assumption | (unfold R3; omega)) (fun c1 => ?_) (fun c1 => ?_)
  · simp only [zcd] at c1
    refine tt_return rfl rfl (Nat.le_of_ble_eq_true rfl) (Nat.le_of_ble_eq_true rfl) ?_
    refine ⟨rfl, rfl, ?_⟩
    unfold kpS
    rw [if_neg (by omega)]
  simp only [zcd] at c1
  refine tt_op rfl rfl ?_
  refine tt_get rfl (by assumption) (by rfl) ?_
  refine tt_op rfl rfl ?_
  refine tt_op rfl rfl ?_
  refine tt_get rfl (by assumption) (by rfl) ?_
  refine tt_op rfl rfl ?_
  refine tt_op rfl rfl ?_
  refine tt_get rfl (by assumption) (by rfl) ?_
  refine z_imul rfl ?_
  refine tt_op rfl rfl ?_
  refine z_cpyI (sp := 0) (dp := 14 * s.1) (k := 14) rfl h61 h60 rfl (by omega) rfl (by omega) (by omega) (by decide) (by decide) ?_
  have g59 : ∀ e, xup (moH h s) 60 e 59 = some (moC s.1) := fun e => by rw [xup_n (by omega)]; exact h59
  refine tt_op rfl rfl ?_
  refine tt_op rfl rfl ?_
  refine tt_get rfl (g59 _) (by rfl) ?_
  refine tt_op rfl rfl ?_
  refine z_iadd rfl ?_
  refine tt_put rfl (g59 _) rfl (by decide) (by rfl) (by rfl) rfl ?_
  refine tt_return rfl rfl (Nat.le_of_ble_eq_true rfl) (Nat.le_of_ble_eq_true rfl) ?_
  refine ⟨rfl, rfl, ?_⟩
  unfold kpS
  rw [if_pos (by omega), cpy_n]
  show xup (xup (xup (xup (xup h 61 (bA s.2.2)) 60 _) 59 (moC s.1)) 60 _) 59 _ = _
  rw [xup_comm (show (59 : Nat) ≠ 60 by omega), xup_xup, xup_xup]
  rfl
/-- whether next may get to -/
def ftR (P : Nat → V3) (CB : Nat) (dr : Nat → Nat) (nx to : Nat) : Nat → Nat → Bool
  | 0, _ => true
  | k + 1, i => if CB.testBit i = true ∧ dst P i nx ≠ dst P (dr i) to then false else ftR P CB dr nx to k (i + 1)
theorem dst_bd (hb : pbd P) {p q : Nat} (hp : p < 14) (hq : q < 14) : R3 (dst P p q) := by
  have h1 := vbd_sub (hb q hq) (hb p hp)
  have := dot_bd h1 h1
  unfold R3 dst
  omega
set_option maxRecDepth 10000 in
set_option maxHeartbeats 1000000 in
theorem c_mfits_loop (HC : xCl h m P) (h5 : h 5 = some (huC F E CB six)) (hCB : CB < 16384) (s : St) (hs : mOk s) (nx to : Nat) (hnx : nx < 14) (hto : to < 14) : ∀ (k i : Nat), i + k = nx → xT xmX2_fits (3, 0, 0, 0, 0) 2 [some (.ref 59), some (zI nx), some (zI to), some (zI i)] [] n (moH h s) (fun r n' h' => r = some (zI (if ftR P CB s.2.2 nx to k i = true then 1 else 0)) ∧ n' = n ∧ h' = moH h s) := by
  have hb := HC.2.2.2.2.2
  have K := xCl_mo (s := s) HC
  have k1 := K.1
  have h59 := moH_59 (h := h) (s := s)
  have h61 := moH_61 (h := h) (s := s)
  have g5 : moH h s 5 = some (huC F E CB six) := by rw [moH_n (by omega) (by omega) (by omega)]; exact h5
  intro k
  induction k with
  | zero =>
    intro i hi
    refine tt_op rfl rfl ?_
    refine tt_op rfl rfl ?_
    refine z_icmp rfl (by first | assumption | (unfold R3; omega)) (by first | assumption | (unfold R3; omega)) (fun c => ?_) (fun c => absurd (by simp only [zcd] <;> omega) c)
    refine tt_op rfl rfl ?_
    refine tt_ireturn rfl rfl (by rfl) (Nat.le_of_ble_eq_true rfl) (Nat.le_of_ble_eq_true rfl) ?_
    exact ⟨rfl, rfl, rfl⟩
  | succ k ih =>
    intro i hi
    have hdr := hs.2.2 i (by omega)
    have r1 := dst_bd hb (show i < 14 by omega) hnx
    have r2 := dst_bd hb hdr hto
    unfold ftR
    have nxt : ¬ (CB.testBit i = true ∧ dst P i nx ≠ dst P (s.2.2 i) to) → xT xmX2_fits (3, 0, 0, 0, 0) 58 [some (.ref 59), some (zI nx), some (zI to), some (zI i)] [] n (moH h s) (fun r n' h' => r = some (zI (if (if CB.testBit i = true ∧ dst P i nx ≠ dst P (s.2.2 i) to then false else ftR P CB s.2.2 nx to k (i + 1)) = true then 1 else 0)) ∧ n' = n ∧ h' = moH h s) := by
      intro hno
      rw [if_neg hno]
      refine z_iinc rfl rfl rfl ?_
      refine tt_goto rfl ?_
      exact ih (i + 1) (by omega)
    refine tt_op rfl rfl ?_
    refine tt_op rfl rfl ?_
    refine z_icmp rfl (by first | assumption | (unfold R3; omega)) (by first | assumption | (unfold R3; omega)) (fun c => absurd c (by simp only [zcd] <;> omega)) (fun c => ?_)
    refine tt_op rfl rfl ?_
    refine tt_op rfl rfl ?_
    refine z_icmp rfl (by first | assumption | (unfold R3; omega)) (by first | assumption | (unfold R3; omega)) (fun c => absurd c (by simp only [zcd] <;> omega)) (fun c => ?_)
    refine tt_op rfl rfl ?_
    refine tt_get rfl (by assumption) (by rfl) ?_
    refine tt_op rfl rfl ?_
    refine tt_pV rfl rfl rfl g5 rfl (c_isCorner g5 i (by omega) hCB) ?_
    refine z_if rfl (by split <;> exact ⟨by decide, by decide⟩) (fun c1 => ?_) (fun c1 => ?_)
    · refine nxt (fun y => ?_)
      simp [zcd, y.1] at c1
    · have hbit : CB.testBit i = true := by
        cases hx : CB.testBit i with
        | true => rfl
        | false => simp [zcd, hx] at c1
      refine tt_op rfl rfl ?_
      refine tt_get rfl (by assumption) (by rfl) ?_
      refine tt_get rfl (by assumption) (by rfl) ?_
      refine tt_op rfl rfl ?_
      refine tt_op rfl rfl ?_
      refine tt_pV rfl rfl rfl k1 rfl (c_distance K i nx (by omega) hnx) ?_
      refine tt_op rfl rfl ?_
      refine tt_get rfl (by assumption) (by rfl) ?_
      refine tt_get rfl (by assumption) (by rfl) ?_
      refine tt_op rfl rfl ?_
      refine tt_get rfl (by assumption) (by rfl) ?_
      refine tt_op rfl rfl ?_
      refine z_iald rfl (by assumption) rfl (by omega) (by decide) ?_
      refine tt_op rfl rfl ?_
      refine tt_pV rfl rfl rfl k1 rfl (c_distance K (s.2.2 i) to hdr hto) ?_
      refine z_icmp rfl r1 r2 (fun c2 => ?_) (fun c2 => ?_)
      · have c2 : dst P i nx = dst P (s.2.2 i) to := c2
        exact nxt (fun y => y.2 c2)
      · have c2 : ¬ dst P i nx = dst P (s.2.2 i) to := c2
        rw [if_pos (show CB.testBit i = true ∧ dst P i nx ≠ dst P (s.2.2 i) to from ⟨hbit, c2⟩)]
        refine tt_op rfl rfl ?_
        refine tt_ireturn rfl rfl (by rfl) (Nat.le_of_ble_eq_true rfl) (Nat.le_of_ble_eq_true rfl) ?_
        exact ⟨rfl, rfl, rfl⟩
set_option maxRecDepth 10000 in
theorem c_mfits (HC : xCl h m P) (h5 : h 5 = some (huC F E CB six)) (hCB : CB < 16384) (s : St) (hs : mOk s) (nx to : Nat) (hnx : nx < 14) (hto : to < 14) : xPure xmX2_fits 3 [.ref 59, zI nx, zI to] n (moH h s) (zI (if ftR P CB s.2.2 nx to nx 0 = true then 1 else 0)) := by
  refine xCall.of xgX2_fits rfl ?_
  refine tt_op rfl rfl ?_
  refine tt_op rfl rfl ?_
  exact c_mfits_loop HC h5 hCB s hs nx to hnx hto nx 0 (by omega)
def lpR (body : Nat → St → St) : Nat → Nat → St → St
  | 0, _, s => s
  | k + 1, to, s => lpR body k (to + 1) (body to s)
/-- the search -/
def exR (P : Nat → V3) (CB : Nat) : Nat → Nat → Nat → St → St
  | 0, _, _, s => kpS s
  | f + 1, nx, fr, s => if CB.testBit nx = true then lpR (fun to s => if fr.testBit to = true ∧ ftR P CB s.2.2 nx to nx 0 = true then exR P CB f (nx + 1) (bdf fr (2 ^ to)) (s.1, s.2.1, nup s.2.2 nx to) else s) 14 0 s else exR P CB f (nx + 1) fr s
theorem bdf_lt {a b : Nat} (ha : a < 16384) : bdf a b < 16384 := by
  unfold bdf
  exact Nat.xor_lt_two_pow (n := 14) ha (Nat.lt_of_le_of_lt Nat.and_le_left ha)
theorem setdr {s : St} {nx to : Nat} : xup (moH h s) 61 (bA (nup s.2.2 nx to)) = moH h (s.1, s.2.1, nup s.2.2 nx to) := by
  show xup (xup (xup (xup h 61 (bA s.2.2)) 60 _) 59 (moC s.1)) 61 _ = _
  rw [xup_comm (show (59 : Nat) ≠ 61 by omega), xup_comm (show (60 : Nat) ≠ 61 by omega), xup_xup]
theorem setdr_ok {s : St} (hs : mOk s) {nx to : Nat} (hto : to < 14) : mOk (s.1, s.2.1, nup s.2.2 nx to) := by
  refine ⟨hs.1, hs.2.1, fun j hj => ?_⟩
  show nup s.2.2 nx to j < 14
  unfold nup
  split
  · exact hto
  · exact hs.2.2 j hj
set_option maxRecDepth 10000 in
set_option maxHeartbeats 2000000 in
theorem c_extend (HC : xCl h m P) (h5 : h 5 = some (huC F E CB six)) (hCB : CB < 16384) : ∀ (f nx fr : Nat) (s : St), nx + f = 14 → fr < 16384 → mOk s → xCall xmX2_extend (f + 5) 0 0 [.ref 59, zI nx, zI fr] n (moH h s) (fun r n' h' => r = none ∧ n' = n ∧ h' = moH h (exR P CB f nx fr s) ∧ mOk (exR P CB f nx fr s)) := by
  intro f
  induction f with
  | zero =>
    intro nx fr s hnx hfr hs
    refine xCall.of xgX2_extend rfl ?_
    refine tt_op rfl rfl ?_
    refine tt_pS rfl rfl rfl rfl (c_isPoint_no (nx : Int) ⟨by omega, by omega⟩ (by omega) _ _) ?_
    refine z_if rfl (by first | assumption | (unfold R3; omega)) (fun c => absurd c (by simp only [zcd] <;> omega)) (fun c => ?_)
    refine tt_op rfl rfl ?_
    refine tt_callV (M' := xmX2_keep) rfl rfl rfl (moH_59 (s := s)) rfl (c_keep s hs.1) ?_
    rintro r n' h' ⟨rfl, rfl, rfl⟩
    refine tt_return rfl rfl (Nat.le_of_ble_eq_true rfl) (Nat.le_of_ble_eq_true rfl) ?_
    exact ⟨rfl, rfl, rfl, kpS_ok hs⟩
  | succ f ih =>
    intro nx fr s hnx hfr hs
    have g5 : ∀ s, moH h s 5 = some (huC F E CB six) := fun s => by rw [moH_n (by omega) (by omega) (by omega)]; exact h5
    have g59 : ∀ s, moH h s 59 = some (moC s.1) := fun s => moH_59
    have e59 := g59 s
    refine xCall.of xgX2_extend rfl ?_
    unfold exR
    refine tt_op rfl rfl ?_
    refine tt_pS rfl rfl rfl rfl (c_isPoint nx (by omega) _ _) ?_ (by omega)
    refine z_if rfl (by first | assumption | (unfold R3; omega)) (fun c => ?_) (fun c => absurd (by simp only [zcd] <;> omega) c)
    refine tt_op rfl rfl ?_
    refine tt_get rfl (by assumption) (by rfl) ?_
    refine tt_op rfl rfl ?_
    refine tt_pV rfl rfl rfl (g5 s) rfl (c_isCorner (g5 s) nx (by omega) hCB) ?_ (by omega)
    refine z_if rfl (by split <;> exact ⟨by decide, by decide⟩) (fun c1 => ?_) (fun c1 => ?_)
    rotate_left
    · cases hx : CB.testBit nx with
      | true => simp [zcd, hx] at c1
      | false =>
        simp only [Bool.false_eq_true, if_false]
        refine tt_op rfl rfl ?_
        refine tt_op rfl rfl ?_
        refine tt_op rfl rfl ?_
        refine z_iadd rfl ?_
        refine tt_op rfl rfl ?_
        refine tt_callV (M' := xmX2_extend) rfl rfl rfl e59 rfl (ih (nx + 1) fr s (by omega) hfr hs) ?_ (by omega)
        rintro r n' h' ⟨rfl, rfl, rfl, hok⟩
        refine tt_return rfl rfl (Nat.le_of_ble_eq_true rfl) (Nat.le_of_ble_eq_true rfl) ?_
        exact ⟨rfl, rfl, rfl, hok⟩
    have hbit : CB.testBit nx = true := by
      cases hx : CB.testBit nx with
      | true => rfl
      | false => simp [zcd, hx] at c1
    rw [if_pos hbit]
    have loop : ∀ (k to : Nat) (s : St), to + k = 14 → mOk s → xT xmX2_extend (f + 1 + 5, 0, 0, 0, 0) 34 [some (.ref 59), some (zI nx), some (zI fr), some (zI to)] [] n (moH h s) (fun r n' h' => r = none ∧ n' = n ∧ h' = moH h (lpR (fun to s => if fr.testBit to = true ∧ ftR P CB s.2.2 nx to nx 0 = true then exR P CB f (nx + 1) (bdf fr (2 ^ to)) (s.1, s.2.1, nup s.2.2 nx to) else s) k to s) ∧ mOk (lpR (fun to s => if fr.testBit to = true ∧ ftR P CB s.2.2 nx to nx 0 = true then exR P CB f (nx + 1) (bdf fr (2 ^ to)) (s.1, s.2.1, nup s.2.2 nx to) else s) k to s)) := by
      intro k
      induction k with
      | zero =>
        intro to s hto hs
        refine tt_op rfl rfl ?_
        refine tt_op rfl rfl ?_
        refine z_icmp rfl (by first | assumption | (unfold R3; omega)) (by first | assumption | (unfold R3; omega)) (fun c => ?_) (fun c => absurd (by simp only [zcd] <;> omega) c)
        refine tt_return rfl rfl (Nat.le_of_ble_eq_true rfl) (Nat.le_of_ble_eq_true rfl) ?_
        exact ⟨rfl, rfl, rfl, hs⟩
      | succ k ihk =>
        intro to s hto hs
        unfold lpR
        have e59 := g59 s
        have e61 := moH_61 (h := h) (s := s)
        have nxt : ¬ (fr.testBit to = true ∧ ftR P CB s.2.2 nx to nx 0 = true) → xT xmX2_extend (f + 1 + 5, 0, 0, 0, 0) 78 [some (.ref 59), some (zI nx), some (zI fr), some (zI to)] [] n (moH h s) (fun r n' h' => r = none ∧ n' = n ∧ h' = moH h (lpR (fun to s => if fr.testBit to = true ∧ ftR P CB s.2.2 nx to nx 0 = true then exR P CB f (nx + 1) (bdf fr (2 ^ to)) (s.1, s.2.1, nup s.2.2 nx to) else s) k (to + 1) (if fr.testBit to = true ∧ ftR P CB s.2.2 nx to nx 0 = true then exR P CB f (nx + 1) (bdf fr (2 ^ to)) (s.1, s.2.1, nup s.2.2 nx to) else s)) ∧ mOk (lpR (fun to s => if fr.testBit to = true ∧ ftR P CB s.2.2 nx to nx 0 = true then exR P CB f (nx + 1) (bdf fr (2 ^ to)) (s.1, s.2.1, nup s.2.2 nx to) else s) k (to + 1) (if fr.testBit to = true ∧ ftR P CB s.2.2 nx to nx 0 = true then exR P CB f (nx + 1) (bdf fr (2 ^ to)) (s.1, s.2.1, nup s.2.2 nx to) else s))) := by
          intro hno
          rw [if_neg hno]
          refine z_iinc rfl rfl rfl ?_
          refine tt_goto rfl ?_
          exact ihk (to + 1) s (by omega) hs
        refine tt_op rfl rfl ?_
        refine tt_op rfl rfl ?_
        refine z_icmp rfl (by first | assumption | (unfold R3; omega)) (by first | assumption | (unfold R3; omega)) (fun c => absurd c (by simp only [zcd] <;> omega)) (fun c => ?_)
        refine tt_op rfl rfl ?_
        refine tt_op rfl rfl ?_
        refine z_tb rfl rfl rfl (by omega) (by omega) ?_
        refine z_if rfl (by split <;> exact ⟨by decide, by decide⟩) (fun c2 => ?_) (fun c2 => ?_)
        · refine nxt (fun y => ?_)
          simp [zcd, y.1] at c2
        have hfb : fr.testBit to = true := by
          cases hx : fr.testBit to with
          | true => rfl
          | false => simp [zcd, hx] at c2
        refine tt_op rfl rfl ?_
        refine tt_op rfl rfl ?_
        refine tt_op rfl rfl ?_
        refine tt_pV rfl rfl rfl e59 rfl (c_mfits HC h5 hCB s hs nx to (by omega) (by omega)) ?_ (by omega)
        refine z_if rfl (by split <;> exact ⟨by decide, by decide⟩) (fun c3 => ?_) (fun c3 => ?_)
        · refine nxt (fun y => ?_)
          simp [zcd, y.2] at c3
        have hft : ftR P CB s.2.2 nx to nx 0 = true := by
          cases hx : ftR P CB s.2.2 nx to nx 0 with
          | true => rfl
          | false => simp [zcd, hx] at c3
        rw [if_pos (show fr.testBit to = true ∧ ftR P CB s.2.2 nx to nx 0 = true from ⟨hfb, hft⟩)]
        refine tt_op rfl rfl ?_
        refine tt_get rfl (by assumption) (by rfl) ?_
        refine tt_op rfl rfl ?_
        refine tt_op rfl rfl ?_
        refine z_iast rfl e61 rfl (by omega) (by decide) ?_
        rw [zup_nup, setdr]
        refine tt_op rfl rfl ?_
        refine tt_op rfl rfl ?_
        refine tt_op rfl rfl ?_
        refine z_iadd rfl ?_
        refine tt_op rfl rfl ?_
        refine tt_op rfl rfl ?_
        refine tt_op rfl rfl ?_
        refine z_shl1 rfl (by omega) ?_
        refine z_dif rfl rfl rfl ?_
        refine tt_callV (M' := xmX2_extend) rfl rfl rfl (g59 _) rfl (ih (nx + 1) (bdf fr (2 ^ to)) (s.1, s.2.1, nup s.2.2 nx to) (by omega) (bdf_lt hfr) (setdr_ok hs (by omega))) ?_ (by omega)
        rintro r n' h' ⟨rfl, rfl, rfl, hok⟩
        refine z_iinc rfl rfl rfl ?_
        refine tt_goto rfl ?_
        exact ihk (to + 1) _ (by omega) hok
    refine tt_op rfl rfl ?_
    refine tt_op rfl rfl ?_
    exact loop 14 0 s rfl hs
set_option maxRecDepth 10000 in
theorem c_list (HC : xCl h m P) (h5 : h 5 = some (huC F E CB six)) (hCB : CB < 16384) (s : St) (hs : mOk s) : xCall xmX2_list 20 0 0 [.ref 59] n (moH h s) (fun r n' h' => r = none ∧ n' = n ∧ h' = moH h (exR P CB 14 0 CB (0, s.2)) ∧ mOk (exR P CB 14 0 CB (0, s.2))) := by
  have h59 := moH_59 (h := h) (s := s)
  refine xCall.of xgX2_list rfl ?_
  refine tt_op rfl rfl ?_
  refine tt_op rfl rfl ?_
  refine tt_put rfl (h59) rfl (by decide) (by rfl) (by rfl) rfl ?_
  have e : xup (moH h s) 59 (moC 0) = moH h (0, s.2) := by
    show xup (xup (xup (xup h 61 (bA s.2.2)) 60 _) 59 (moC s.1)) 59 _ = _
    rw [xup_xup]
  have e' : xup (moH h s) 59 (.inr (Int.toNat 2, xset [.ref 5, zI s.1, .ref 60, .ref 61] 1 (zI 0))) = moH h (0, s.2) := e
  rw [e']
  have g5 : moH h (0, s.2) 5 = some (huC F E CB six) := by rw [moH_n (by omega) (by omega) (by omega)]; exact h5
  have g59 := moH_59 (h := h) (s := (0, s.2))
  refine tt_op rfl rfl ?_
  refine tt_op rfl rfl ?_
  refine tt_op rfl rfl ?_
  refine tt_get rfl (by assumption) (by rfl) ?_
  refine tt_get rfl (by assumption) (by rfl) ?_
  refine tt_callV (M' := xmX2_extend) rfl rfl rfl g59 rfl (c_extend HC h5 hCB 14 0 CB (0, s.2) rfl hCB ⟨Nat.zero_le _, hs.2⟩) ?_
  rintro r n' h' ⟨rfl, rfl, rfl, hok⟩
  refine tt_return rfl rfl (Nat.le_of_ble_eq_true rfl) (Nat.le_of_ble_eq_true rfl) ?_
  exact ⟨rfl, rfl, rfl, hok⟩
end MO
