/-! The section -/
theorem cpy_l (F G : Nat → Int) (a b c : Nat) : va_cpy (fun j => Int64.ofInt (F j)) (fun j => Int64.ofInt (G j)) a b c = fun j => Int64.ofInt (va_cpy F G a b c j) := by
  funext j
  unfold va_cpy
  split <;> rfl
theorem cpy_i (F G : Nat → Int) (a b c : Nat) : va_cpy (fun j => Int32.ofInt (F j)) (fun j => Int32.ofInt (G j)) a b c = fun j => Int32.ofInt (va_cpy F G a b c j) := by
  funext j
  unfold va_cpy
  split <;> rfl
theorem z3_neg {k : Nat} (h : k < 2147483648) : ¬ Int32.ofInt (k : Int) < 0 := by
  rw [show (0 : Int32) = Int32.ofInt 0 from rfl, z3_lt ⟨by omega, by omega⟩ ⟨by decide, by decide⟩]
  omega
section XCPY
variable {M : xM} {d mc ms su pc nx b hh i q q' N N' : Nat} {a : Int} {l : xL} {st : List Value} {n : Nat} {h : xHp} {Q : xQt} {F G : Nat → Int} {x y z : Int} {sp dp k : Nat}
theorem z_cpyL (hf : xfe M pc = some (.invokestatic i, nx, a, 1001, hh)) (hq : h q = some (zL N F)) (hq' : h q' = some (zL N' G)) (hx : x = (sp : Int)) (hy : y = (dp : Int)) (hz : z = (k : Int)) (h4 : sp + k ≤ N) (h5 : dp + k ≤ N') (hN : N < 2147483648) (hN' : N' < 2147483648)
    (kk : xT M (d, mc, ms, 0, su) nx l st n (xup h q' (zL N' (va_cpy F G sp dp k))) Q) (hd : 1 ≤ d := by exact Nat.le_of_ble_eq_true rfl) (hW : xcat st ≤ 8 := by exact Nat.le_of_ble_eq_true rfl) : xT M (d, mc, ms, 0, su) pc l (zI z :: zI y :: .ref q' :: zI x :: .ref q :: st) n h Q := by
  subst hx; subst hy; subst hz
  refine tt_cpyL hf hq hq' (z3_neg (by omega)) (z3_neg (by omega)) (z3_neg (by omega)) (by rw [z3_clamp (by omega), z3_clamp (by omega)]; exact h4) (by rw [z3_clamp (by omega), z3_clamp (by omega)]; exact h5) ?_ hd hW
  rw [z3_clamp (by omega), z3_clamp (by omega), z3_clamp (by omega), cpy_l]
  exact kk
theorem z_cpyI (hf : xfe M pc = some (.invokestatic i, nx, a, 1001, hh)) (hq : h q = some (zA N F)) (hq' : h q' = some (zA N' G)) (hx : x = (sp : Int)) (hy : y = (dp : Int)) (hz : z = (k : Int)) (h4 : sp + k ≤ N) (h5 : dp + k ≤ N') (hN : N < 2147483648) (hN' : N' < 2147483648)
    (kk : xT M (d, mc, ms, 0, su) nx l st n (xup h q' (zA N' (va_cpy F G sp dp k))) Q) (hd : 1 ≤ d := by exact Nat.le_of_ble_eq_true rfl) (hW : xcat st ≤ 8 := by exact Nat.le_of_ble_eq_true rfl) : xT M (d, mc, ms, 0, su) pc l (zI z :: zI y :: .ref q' :: zI x :: .ref q :: st) n h Q := by
  subst hx; subst hy; subst hz
  refine tt_cpyI hf hq hq' (z3_neg (by omega)) (z3_neg (by omega)) (z3_neg (by omega)) (by rw [z3_clamp (by omega), z3_clamp (by omega)]; exact h4) (by rw [z3_clamp (by omega), z3_clamp (by omega)]; exact h5) ?_ hd hW
  rw [z3_clamp (by omega), z3_clamp (by omega), z3_clamp (by omega), cpy_i]
  exact kk
end XCPY
abbrev seC (cnt : Nat) : xE := .inr (4, [zI cnt, .ref 58])
/-- what the section's numbers keep to -/
def sBd (N : Nat → Int) : Prop := ∀ j, j < 96 → -1000000 ≤ N j ∧ N j ≤ 1000000
abbrev V4 : Type := V3 × Int
def v4bd (v : V4) : Prop := vbd 1000000 v.1 ∧ -1000000 ≤ v.2 ∧ v.2 ≤ 1000000
/-- whether v comes before corner i -/
def slL (N : Nat → Int) (v : V4) (i : Nat) : Prop := v.1.1 * N (4 * i + 3) - N (4 * i) * v.2 < 0 ∨ (v.1.1 * N (4 * i + 3) - N (4 * i) * v.2 = 0 ∧ (v.1.2.1 * N (4 * i + 3) - N (4 * i + 1) * v.2 < 0 ∨ (v.1.2.1 * N (4 * i + 3) - N (4 * i + 1) * v.2 = 0 ∧ v.1.2.2 * N (4 * i + 3) - N (4 * i + 2) * v.2 < 0)))
section SE
variable {h : xHp} {m : Nat} {P : Nat → V3} {n : Nat} {cnt : Nat} {N : Nat → Int}
set_option maxRecDepth 10000 in
theorem c_snum (h57 : h 57 = some (seC cnt)) (h58 : h 58 = some (zL 96 N)) (i w : Nat) (hi : i < 24) (hw : w < 4) : xPure xmX4_number 1 [.ref 57, zI i, zI w] n h (zJ (N (4 * i + w))) := by
  refine xCall.of xgX4_number rfl ?_
  refine tt_op rfl rfl ?_
  refine z_if rfl (by first | assumption | (unfold R3; omega)) (fun c => absurd c (by simp only [zcd] <;> omega)) (fun c => ?_)
  refine tt_op rfl rfl ?_
  refine tt_op rfl rfl ?_
  refine z_icmp rfl (by first | assumption | (unfold R3; omega)) (by first | assumption | (unfold R3; omega)) (fun c => absurd c (by simp only [zcd] <;> omega)) (fun c => ?_)
  refine tt_op rfl rfl ?_
  refine z_if rfl (by first | assumption | (unfold R3; omega)) (fun c => absurd c (by simp only [zcd] <;> omega)) (fun c => ?_)
  refine tt_op rfl rfl ?_
  refine tt_op rfl rfl ?_
  refine z_icmp rfl (by first | assumption | (unfold R3; omega)) (by first | assumption | (unfold R3; omega)) (fun c => absurd c (by simp only [zcd] <;> omega)) (fun c => ?_)
  refine tt_op rfl rfl ?_
  refine tt_get rfl h57 (by rfl) ?_
  refine tt_op rfl rfl ?_
  refine tt_op rfl rfl ?_
  refine z_imul rfl ?_
  refine tt_op rfl rfl ?_
  refine z_iadd rfl ?_
  refine z_lald (j := 4 * i + w) rfl h58 (by omega) (by omega) (by decide) ?_
  refine tt_goto rfl ?_
  refine tt_lreturn rfl rfl (Nat.le_of_ble_eq_true rfl) (Nat.le_of_ble_eq_true rfl) ?_
  exact ⟨rfl, rfl, rfl⟩
set_option maxRecDepth 10000 in
set_option maxHeartbeats 1000000 in
theorem c_sleads (h57 : h 57 = some (seC cnt)) (h58 : h 58 = some (zL 96 N)) (hN : sBd N) (v : V4) (hv : v4bd v) (i : Nat) (hi : i < 24) (r : Value) (hr1 : slL N v i → r = zI 1) (hr0 : ¬ slL N v i → r = zI 0) : xPure xmX4_leads 2 [.ref 57, zJ v.1.1, zJ v.1.2.1, zJ v.1.2.2, zJ v.2, zI i] n h r := by
  obtain ⟨⟨v1, v2, v3⟩, v4⟩ := hv
  have n0 := hN (4 * i) (by omega)
  have n1 := hN (4 * i + 1) (by omega)
  have n2 := hN (4 * i + 2) (by omega)
  have n3 := hN (4 * i + 3) (by omega)
  have a1 := mul_bd v1 n3
  have a2 := mul_bd v2 n3
  have a3 := mul_bd v3 n3
  have b1 := mul_bd n0 v4
  have b2 := mul_bd n1 v4
  have b3 := mul_bd n2 v4
  have R0 : R6 0 := ⟨by decide, by decide⟩
  have RX : R6 (v.1.1 * N (4 * i + 3) - N (4 * i) * v.2) := by unfold R6; omega
  have RY : R6 (v.1.2.1 * N (4 * i + 3) - N (4 * i + 1) * v.2) := by unfold R6; omega
  have RZ : R6 (v.1.2.2 * N (4 * i + 3) - N (4 * i + 2) * v.2) := by unfold R6; omega
  refine xCall.of xgX4_leads rfl ?_
  refine tt_op rfl rfl ?_
  refine tt_op rfl rfl ?_
  refine tt_op rfl rfl ?_
  refine tt_pV rfl rfl rfl h57 rfl (c_snum h57 h58 i 3 hi (by omega)) ?_
  refine tt_op rfl rfl ?_
  refine tt_op rfl rfl ?_
  refine tt_op rfl rfl ?_
  refine z_lmul rfl ?_
  refine tt_op rfl rfl ?_
  refine tt_op rfl rfl ?_
  refine tt_op rfl rfl ?_
  refine tt_pV rfl rfl rfl h57 rfl (c_snum h57 h58 i 0 hi (by omega)) ?_
  refine tt_op rfl rfl ?_
  refine z_lmul rfl ?_
  refine z_lsub rfl ?_
  refine tt_op rfl rfl ?_
  refine tt_op rfl rfl ?_
  refine tt_op rfl rfl ?_
  refine z_lmul rfl ?_
  refine tt_op rfl rfl ?_
  refine tt_op rfl rfl ?_
  refine tt_op rfl rfl ?_
  refine tt_pV rfl rfl rfl h57 rfl (c_snum h57 h58 i 1 hi (by omega)) ?_
  refine tt_op rfl rfl ?_
  refine z_lmul rfl ?_
  refine z_lsub rfl ?_
  refine tt_op rfl rfl ?_
  refine tt_op rfl rfl ?_
  refine tt_op rfl rfl ?_
  refine z_lmul rfl ?_
  refine tt_op rfl rfl ?_
  refine tt_op rfl rfl ?_
  refine tt_op rfl rfl ?_
  refine tt_pV rfl rfl rfl h57 rfl (c_snum h57 h58 i 2 hi (by omega)) ?_
  refine tt_op rfl rfl ?_
  refine z_lmul rfl ?_
  refine z_lsub rfl ?_
  refine tt_op rfl rfl ?_
  have yes : slL N v i → ∀ l, xT xmX4_leads (2, 0, 0, 0, 0) 96 l [] n h (fun r' n' h' => r' = some r ∧ n' = n ∧ h' = h) := by
    intro hy l
    refine tt_op rfl rfl ?_
    refine tt_goto rfl ?_
    refine tt_ireturn rfl rfl (by rfl) (Nat.le_of_ble_eq_true rfl) (Nat.le_of_ble_eq_true rfl) ?_
    exact ⟨congrArg some (hr1 hy).symm, rfl, rfl⟩
  have no : ¬ slL N v i → ∀ l, xT xmX4_leads (2, 0, 0, 0, 0) 100 l [] n h (fun r' n' h' => r' = some r ∧ n' = n ∧ h' = h) := by
    intro hy l
    refine tt_op rfl rfl ?_
    refine tt_ireturn rfl rfl (by rfl) (Nat.le_of_ble_eq_true rfl) (Nat.le_of_ble_eq_true rfl) ?_
    exact ⟨congrArg some (hr0 hy).symm, rfl, rfl⟩
  unfold slL at yes no
  refine tt_op rfl rfl ?_
  refine tt_op rfl rfl ?_
  refine z_lif rfl rfl RX R0 (fun c1 => yes (Or.inl c1) _) (fun c1 => ?_)
  have c1 : ¬ v.1.1 * N (4 * i + 3) - N (4 * i) * v.2 < 0 := c1
  refine tt_op rfl rfl ?_
  refine tt_op rfl rfl ?_
  refine z_lif rfl rfl RX R0 (fun c2 => no (fun z => ?_) _) (fun c2 => ?_)
  · have c2 : v.1.1 * N (4 * i + 3) - N (4 * i) * v.2 ≠ 0 := c2
    omega
  have c2 : ¬ v.1.1 * N (4 * i + 3) - N (4 * i) * v.2 ≠ 0 := c2
  refine tt_op rfl rfl ?_
  refine tt_op rfl rfl ?_
  refine z_lif rfl rfl RY R0 (fun c3 => yes (Or.inr ⟨by omega, Or.inl c3⟩) _) (fun c3 => ?_)
  have c3 : ¬ v.1.2.1 * N (4 * i + 3) - N (4 * i + 1) * v.2 < 0 := c3
  refine tt_op rfl rfl ?_
  refine tt_op rfl rfl ?_
  refine z_lif rfl rfl RY R0 (fun c4 => no (fun z => ?_) _) (fun c4 => ?_)
  · have c4 : v.1.2.1 * N (4 * i + 3) - N (4 * i + 1) * v.2 ≠ 0 := c4
    omega
  have c4 : ¬ v.1.2.1 * N (4 * i + 3) - N (4 * i + 1) * v.2 ≠ 0 := c4
  refine tt_op rfl rfl ?_
  refine tt_op rfl rfl ?_
  refine z_lif rfl rfl RZ R0 (fun c5 => no (fun z => ?_) _) (fun c5 => yes (Or.inr ⟨by omega, Or.inr ⟨by omega, ?_⟩⟩) _)
  · have c5 : 0 ≤ v.1.2.2 * N (4 * i + 3) - N (4 * i + 2) * v.2 := c5
    omega
  · have c5 : ¬ 0 ≤ v.1.2.2 * N (4 * i + 3) - N (4 * i + 2) * v.2 := c5
    omega
/-- corner v goes in at its place: relation by steps -/
noncomputable def inR (v : V4) : Nat → (Nat → Int) → (Nat → Int) × Nat
  | 0, N => (N, 0)
  | k + 1, N => @ite _ (slL N v k) (Classical.propDecidable _) (inR v k (va_cpy N N (4 * k) (4 * (k + 1)) 4)) (N, k + 1)
def put4 (N : Nat → Int) (k : Nat) (v : V4) : Nat → Int := zup (zup (zup (zup N (4 * k) v.1.1) (4 * k + 1) v.1.2.1) (4 * k + 2) v.1.2.2) (4 * k + 3) v.2
theorem cpy_bd {N : Nat → Int} (hN : sBd N) (k : Nat) (hk : k + 1 < 24) : sBd (va_cpy N N (4 * k) (4 * (k + 1)) 4) := by
  intro j hj
  unfold va_cpy
  split
  · exact hN _ (by omega)
  · exact hN j hj
theorem put4_bd {N : Nat → Int} (hN : sBd N) (k : Nat) (v : V4) (hv : v4bd v) : sBd (put4 N k v) := by
  obtain ⟨⟨v1, v2, v3⟩, v4⟩ := hv
  intro j hj
  unfold put4 zup
  split
  · exact v4
  · split
    · exact v3
    · split
      · exact v2
      · split
        · exact v1
        · exact hN j hj
theorem inR_bd (v : V4) : ∀ (k : Nat) (N : Nat → Int), k < 24 → sBd N → sBd (inR v k N).1 ∧ (inR v k N).2 ≤ k
  | 0, N, hk, hN => ⟨hN, Nat.le_refl _⟩
  | k + 1, N, hk, hN => by
    unfold inR
    split
    · obtain ⟨a, b⟩ := inR_bd v k _ (by omega) (cpy_bd hN k hk)
      exact ⟨a, by omega⟩
    · exact ⟨hN, Nat.le_refl _⟩
set_option maxRecDepth 10000 in
set_option maxHeartbeats 1000000 in
theorem c_ins_loop (v : V4) (hv : v4bd v) (h57 : h 57 = some (seC cnt)) (hc : cnt < 24) (Q : xQt) : ∀ (k : Nat) (N : Nat → Int), k < 24 → sBd N → (∀ (N' : Nat → Int) (k' : Nat), (N', k') = inR v k N → xT xmX4_insert (3, 0, 0, 0, 0) 73 [some (.ref 57), some (zJ v.1.1), none, some (zJ v.1.2.1), none, some (zJ v.1.2.2), none, some (zJ v.2), none, some (zI k')] [] n (xup h 58 (zL 96 N')) Q) → xT xmX4_insert (3, 0, 0, 0, 0) 23 [some (.ref 57), some (zJ v.1.1), none, some (zJ v.1.2.1), none, some (zJ v.1.2.2), none, some (zJ v.2), none, some (zI k)] [] n (xup h 58 (zL 96 N)) Q := by
  intro k
  induction k with
  | zero =>
    intro N hk hN hfin
    refine tt_op rfl rfl ?_
    refine z_if rfl (by first | assumption | (unfold R3; omega)) (fun c => ?_) (fun c => absurd (by simp only [zcd] <;> omega) c)
    exact hfin N 0 rfl
  | succ k ih =>
    intro N hk hN hfin
    have g57 : xup h 58 (zL 96 N) 57 = some (seC cnt) := by rw [xup_n (by omega)]; exact h57
    have g58 := (xup_s : xup h 58 (zL 96 N) 58 = _)
    have hix : ((k + 1 : Nat) : Int) - 1 = (k : Int) := by omega
    refine tt_op rfl rfl ?_
    refine z_if rfl (by first | assumption | (unfold R3; omega)) (fun c => absurd c (by simp only [zcd] <;> omega)) (fun c => ?_)
    refine tt_op rfl rfl ?_
    refine tt_op rfl rfl ?_
    refine tt_op rfl rfl ?_
    refine tt_op rfl rfl ?_
    refine tt_op rfl rfl ?_
    refine tt_op rfl rfl ?_
    refine tt_op rfl rfl ?_
    refine z_isub rfl ?_
    rw [hix]
    by_cases hl : slL N v k
    · refine tt_pV rfl rfl rfl g57 rfl (c_sleads g57 g58 hN v hv k (by omega) (zI 1) (fun _ => rfl) (fun z => absurd hl z)) ?_
      refine z_if rfl (by first | assumption | (unfold R3; omega)) (fun c => absurd c (by simp only [zcd] <;> omega)) (fun c => ?_)
      refine tt_op rfl rfl ?_
      refine tt_get rfl (by assumption) (by rfl) ?_
      refine tt_op rfl rfl ?_
      refine tt_op rfl rfl ?_
      refine tt_op rfl rfl ?_
      refine z_isub rfl ?_
      refine z_imul rfl ?_
      refine tt_op rfl rfl ?_
      refine tt_get rfl (by assumption) (by rfl) ?_
      refine tt_op rfl rfl ?_
      refine tt_op rfl rfl ?_
      refine z_imul rfl ?_
      refine tt_op rfl rfl ?_
      refine z_cpyL (sp := 4 * k) (dp := 4 * (k + 1)) (k := 4) rfl g58 g58 (by omega) (by omega) rfl (by omega) (by omega) (by decide) (by decide) ?_
      rw [xup_xup]
      refine z_iinc rfl rfl rfl ?_
      refine tt_goto rfl ?_
      rw [show ((k + 1 : Nat) : Int) + -1 = (k : Int) by omega]
      refine ih _ (by omega) (cpy_bd hN k hk) (fun N' k' e => hfin N' k' ?_)
      unfold inR
      rw [if_pos hl]
      exact e
    · refine tt_pV rfl rfl rfl g57 rfl (c_sleads g57 g58 hN v hv k (by omega) (zI 0) (fun z => absurd z hl) (fun _ => rfl)) ?_
      refine z_if rfl (by first | assumption | (unfold R3; omega)) (fun c => ?_) (fun c => absurd (by simp only [zcd] <;> omega) c)
      refine hfin N (k + 1) ?_
      unfold inR
      rw [if_neg hl]
/-- one corner more, as long as there is room -/
noncomputable def isv (v : V4) (s : Nat × (Nat → Int)) : Nat × (Nat → Int) := if s.1 < 24 then (s.1 + 1, put4 (inR v s.1 s.2).1 (inR v s.1 s.2).2 v) else s
theorem isv_ok {v : V4} (hv : v4bd v) {s : Nat × (Nat → Int)} (h1 : s.1 ≤ 24) (h2 : sBd s.2) : (isv v s).1 ≤ 24 ∧ sBd (isv v s).2 := by
  unfold isv
  split
  · exact ⟨by show s.1 + 1 ≤ 24; omega, put4_bd (inR_bd v s.1 s.2 (by omega) h2).1 _ v hv⟩
  · exact ⟨h1, h2⟩
abbrev seH (h : xHp) (s : Nat × (Nat → Int)) : xHp := xup (xup h 58 (zL 96 s.2)) 57 (seC s.1)
set_option maxRecDepth 10000 in
set_option maxHeartbeats 1000000 in
theorem c_insert (v : V4) (hv : v4bd v) (s : Nat × (Nat → Int)) (hc : s.1 ≤ 24) (hN : sBd s.2) : xCall xmX4_insert 3 0 0 [.ref 57, zJ v.1.1, zJ v.1.2.1, zJ v.1.2.2, zJ v.2] n (seH h s) (fun r n' h' => r = none ∧ n' = n ∧ h' = seH h (isv v s)) := by
  obtain ⟨cnt, N⟩ := s
  dsimp only at hc hN
  have h57 := (xup_s : seH h (cnt, N) 57 = some (seC cnt))
  refine xCall.of xgX4_insert rfl ?_
  refine tt_op rfl rfl ?_
  refine tt_get rfl (by assumption) (by rfl) ?_
  refine z_if rfl (by first | assumption | (unfold R3; omega)) (fun c => absurd c (by simp only [zcd] <;> omega)) (fun c => ?_)
  refine tt_op rfl rfl ?_
  refine tt_get rfl (by assumption) (by rfl) ?_
  refine tt_op rfl rfl ?_
  refine z_icmp rfl (by first | assumption | (unfold R3; omega)) (by first | assumption | (unfold R3; omega)) (fun c1 => ?_) (fun c1 => ?_)
  rotate_left
  · simp only [zcd] at c1
    refine tt_return rfl rfl (Nat.le_of_ble_eq_true rfl) (Nat.le_of_ble_eq_true rfl) ?_
    refine ⟨rfl, rfl, ?_⟩
    unfold isv
    rw [if_neg (by show ¬ cnt < 24; omega)]
  simp only [zcd] at c1
  refine tt_op rfl rfl ?_
  refine tt_get rfl (by assumption) (by rfl) ?_
  refine tt_op rfl rfl ?_
  have e0 : seH h (cnt, N) = xup (xup h 57 (seC cnt)) 58 (zL 96 N) := xup_comm (by omega)
  rw [e0]
  refine c_ins_loop (h := xup h 57 (seC cnt)) v hv xup_s (by omega) _ cnt N (by omega) hN (fun N' k' e => ?_)
  obtain ⟨b1, b2⟩ := inR_bd v cnt N (by omega) hN
  rw [← e] at b1 b2
  dsimp only at b1 b2
  have G : ∀ X : Nat → Int, xup (xup h 57 (seC cnt)) 58 (zL 96 X) 57 = some (seC cnt) := fun X => by rw [xup_n (by omega)]; exact xup_s
  refine tt_op rfl rfl ?_
  refine tt_get rfl (G _) (by rfl) ?_
  refine tt_op rfl rfl ?_
  refine tt_op rfl rfl ?_
  refine z_imul rfl ?_
  refine tt_op rfl rfl ?_
  refine z_last (j := 4 * k') rfl xup_s (by omega) (by omega) (by decide) ?_
  rw [xup_xup]
  refine tt_op rfl rfl ?_
  refine tt_get rfl (G _) (by rfl) ?_
  refine tt_op rfl rfl ?_
  refine tt_op rfl rfl ?_
  refine z_imul rfl ?_
  refine tt_op rfl rfl ?_
  refine z_iadd rfl ?_
  refine tt_op rfl rfl ?_
  refine z_last (j := 4 * k' + 1) rfl xup_s (by omega) (by omega) (by decide) ?_
  rw [xup_xup]
  refine tt_op rfl rfl ?_
  refine tt_get rfl (G _) (by rfl) ?_
  refine tt_op rfl rfl ?_
  refine tt_op rfl rfl ?_
  refine z_imul rfl ?_
  refine tt_op rfl rfl ?_
  refine z_iadd rfl ?_
  refine tt_op rfl rfl ?_
  refine z_last (j := 4 * k' + 2) rfl xup_s (by omega) (by omega) (by decide) ?_
  rw [xup_xup]
  refine tt_op rfl rfl ?_
  refine tt_get rfl (G _) (by rfl) ?_
  refine tt_op rfl rfl ?_
  refine tt_op rfl rfl ?_
  refine z_imul rfl ?_
  refine tt_op rfl rfl ?_
  refine z_iadd rfl ?_
  refine tt_op rfl rfl ?_
  refine z_last (j := 4 * k' + 3) rfl xup_s (by omega) (by omega) (by decide) ?_
  rw [xup_xup]
  refine tt_op rfl rfl ?_
  refine tt_op rfl rfl ?_
  refine tt_get rfl (G _) (by rfl) ?_
  refine tt_op rfl rfl ?_
  refine z_iadd rfl ?_
  refine tt_put rfl (G _) rfl (by decide) (by rfl) (by rfl) rfl ?_
  refine tt_return rfl rfl (Nat.le_of_ble_eq_true rfl) (Nat.le_of_ble_eq_true rfl) ?_
  refine ⟨rfl, rfl, ?_⟩
  unfold isv
  rw [if_pos (by show cnt < 24; omega)]
  dsimp only
  rw [← e, xup_comm (show (58 : Nat) ≠ 57 by omega), xup_xup, xup_comm (show (57 : Nat) ≠ 58 by omega)]
  rfl
/-- the point between p and q with so much of each -/
def mxV (P : Nat → V3) (p : Nat) (a : Int) (q : Nat) (b : Int) : V4 := ((a * (P p).1 + b * (P q).1, a * (P p).2.1 + b * (P q).2.1, a * (P p).2.2 + b * (P q).2.2), a + b)
theorem mxV_bd {P : Nat → V3} (hb : pbd P) {p q : Nat} (hp : p < 14) (hq : q < 14) {a b : Int} (ha : 0 ≤ a ∧ a ≤ 10000) (hb' : 0 ≤ b ∧ b ≤ 10000) : v4bd (mxV P p a q b) := by
  obtain ⟨p1, p2, p3⟩ := hb p hp
  obtain ⟨q1, q2, q3⟩ := hb q hq
  have A : -10000 ≤ a ∧ a ≤ 10000 := by omega
  have B : -10000 ≤ b ∧ b ≤ 10000 := by omega
  have a1 := mul_bd A p1
  have a2 := mul_bd A p2
  have a3 := mul_bd A p3
  have b1 := mul_bd B q1
  have b2 := mul_bd B q2
  have b3 := mul_bd B q3
  unfold v4bd vbd mxV
  dsimp only
  omega
theorem seH_n {s : Nat × (Nat → Int)} {j : Nat} (h1 : j ≠ 57) (h2 : j ≠ 58) : seH h s j = h j := by
  show xup (xup h 58 (zL 96 s.2)) 57 (seC s.1) j = h j
  rw [xup_n h1, xup_n h2]
theorem xCl_se {s : Nat × (Nat → Int)} (HC : xCl h m P) : xCl (seH h s) m P := xCl_up (by omega) (xCl_up (by omega) HC)
set_option maxRecDepth 10000 in
set_option maxHeartbeats 1000000 in
theorem c_mix (HC : xCl h m P) (p q : Nat) (hp : p < 14) (hq : q < 14) (a b : Int) (ha : 0 ≤ a ∧ a ≤ 10000) (hb' : 0 ≤ b ∧ b ≤ 10000) (s : Nat × (Nat → Int)) (hc : s.1 ≤ 24) (hN : sBd s.2) : xCall xmX4_mix 4 0 0 [.ref 57, .ref 1, zI p, zJ a, zI q, zJ b] n (seH h s) (fun r n' h' => r = none ∧ n' = n ∧ h' = seH h (isv (mxV P p a q b) s)) := by
  have K := xCl_se (s := s) HC
  have k1 := K.1
  have hb := HC.2.2.2.2.2
  have p0 := vax_bd (hb p hp) 0
  have p1 := vax_bd (hb p hp) 1
  have p2 := vax_bd (hb p hp) 2
  have q0 := vax_bd (hb q hq) 0
  have q1 := vax_bd (hb q hq) 1
  have q2 := vax_bd (hb q hq) 2
  have h57 := (xup_s : seH h s 57 = some (seC s.1))
  refine xCall.of xgX4_mix rfl ?_
  refine tt_op rfl rfl ?_
  refine tt_op rfl rfl ?_
  refine tt_op rfl rfl ?_
  refine tt_op rfl rfl ?_
  refine tt_op rfl rfl ?_
  refine tt_pV rfl rfl rfl k1 rfl (c_number K p 0 hp (by omega)) ?_
  refine z_il rfl (by first | assumption | (unfold R3; omega)) ?_
  refine z_lmul rfl ?_
  refine tt_op rfl rfl ?_
  refine tt_op rfl rfl ?_
  refine tt_op rfl rfl ?_
  refine tt_op rfl rfl ?_
  refine tt_pV rfl rfl rfl k1 rfl (c_number K q 0 hq (by omega)) ?_
  refine z_il rfl (by first | assumption | (unfold R3; omega)) ?_
  refine z_lmul rfl ?_
  refine z_ladd rfl ?_
  refine tt_op rfl rfl ?_
  refine tt_op rfl rfl ?_
  refine tt_op rfl rfl ?_
  refine tt_op rfl rfl ?_
  refine tt_pV rfl rfl rfl k1 rfl (c_number K p 1 hp (by omega)) ?_
  refine z_il rfl (by first | assumption | (unfold R3; omega)) ?_
  refine z_lmul rfl ?_
  refine tt_op rfl rfl ?_
  refine tt_op rfl rfl ?_
  refine tt_op rfl rfl ?_
  refine tt_op rfl rfl ?_
  refine tt_pV rfl rfl rfl k1 rfl (c_number K q 1 hq (by omega)) ?_
  refine z_il rfl (by first | assumption | (unfold R3; omega)) ?_
  refine z_lmul rfl ?_
  refine z_ladd rfl ?_
  refine tt_op rfl rfl ?_
  refine tt_op rfl rfl ?_
  refine tt_op rfl rfl ?_
  refine tt_op rfl rfl ?_
  refine tt_pV rfl rfl rfl k1 rfl (c_number K p 2 hp (by omega)) ?_
  refine z_il rfl (by first | assumption | (unfold R3; omega)) ?_
  refine z_lmul rfl ?_
  refine tt_op rfl rfl ?_
  refine tt_op rfl rfl ?_
  refine tt_op rfl rfl ?_
  refine tt_op rfl rfl ?_
  refine tt_pV rfl rfl rfl k1 rfl (c_number K q 2 hq (by omega)) ?_
  refine z_il rfl (by first | assumption | (unfold R3; omega)) ?_
  refine z_lmul rfl ?_
  refine z_ladd rfl ?_
  refine tt_op rfl rfl ?_
  refine tt_op rfl rfl ?_
  refine z_ladd rfl ?_
  refine tt_callV (M' := xmX4_insert) rfl rfl rfl h57 rfl (c_insert (mxV P p a q b) (mxV_bd hb hp hq ha hb') s hc hN) ?_
  rintro r n' h' ⟨rfl, rfl, rfl⟩
  refine tt_return rfl rfl (Nat.le_of_ble_eq_true rfl) (Nat.le_of_ble_eq_true rfl) ?_
  exact ⟨rfl, rfl, rfl⟩
/-- the corners on edges from p to lesser ones, then all -/
noncomputable def slQ (P : Nat → V3) (b : Nat → Nat) (d : V3) (z : Int) (p : Nat) : Nat → Nat → Nat × (Nat → Int) → Nat × (Nat → Int)
  | 0, _, s => s
  | k + 1, q, s => slQ P b d z p k (q + 1) (if ((dot d (P p) - z < 0 ∧ 0 < dot d (P q) - z) ∨ (0 < dot d (P p) - z ∧ dot d (P q) - z < 0)) ∧ (b p).testBit q = true then isv (mxV P p ((dot d (P q) - z).natAbs : Int) q ((dot d (P p) - z).natAbs : Int)) s else s)
noncomputable def slP (P : Nat → V3) (CB : Nat) (b : Nat → Nat) (d : V3) (z : Int) : Nat → Nat → Nat × (Nat → Int) → Nat × (Nat → Int)
  | 0, _, s => s
  | k + 1, p, s => slP P CB b d z k (p + 1) (if CB.testBit p = true then slQ P b d z p p 0 (if dot d (P p) - z = 0 then isv (mxV P p 1 p 0) s else s) else s)
def sOk (s : Nat × (Nat → Int)) : Prop := s.1 ≤ 24 ∧ sBd s.2
set_option maxRecDepth 10000 in
set_option maxHeartbeats 2000000 in
theorem c_slice_q (HC : xCl h m P) {F E CB : Nat} {six : Int} (h5 : h 5 = some (huC F E CB six)) (b : Nat → Nat) (h7 : h 7 = some (bA b)) (hbb : ∀ j, j < 14 → b j < 16384) (d : V3) (hd : vbd 20 d) (z : Int) (hz : -2000 ≤ z ∧ z ≤ 2000) (p : Nat) (hp : p < 14) (Q : xQt) : ∀ (k q : Nat) (s : Nat × (Nat → Int)) (l14 l16 : Option Value), q + k = p → sOk s → (∀ l14 l16, sOk (slQ P b d z p k q s) → xT xmX4_slice (5, 0, 0, 0, 0) 179 [some (.ref 57), some (.ref 5), some (zJ d.1), none, some (zJ d.2.1), none, some (zJ d.2.2), none, some (zJ z), none, some (zI p), some (zJ (dot d (P p) - z)), none, some (zI p), l14, none, l16] [] n (seH h (slQ P b d z p k q s)) Q) → xT xmX4_slice (5, 0, 0, 0, 0) 70 [some (.ref 57), some (.ref 5), some (zJ d.1), none, some (zJ d.2.1), none, some (zJ d.2.2), none, some (zJ z), none, some (zI p), some (zJ (dot d (P p) - z)), none, some (zI q), l14, none, l16] [] n (seH h s) Q := by
  have hb := HC.2.2.2.2.2
  have bp := dot_bd hd (hb p hp)
  have R0 : R6 0 := ⟨by decide, by decide⟩
  have RP : R6 (dot d (P p) - z) := by unfold R6; omega
  intro k
  induction k with
  | zero =>
    intro q s l14 l16 hq hs hfin
    have : q = p := by omega
    subst this
    refine tt_op rfl rfl ?_
    refine tt_op rfl rfl ?_
    refine z_icmp rfl (by first | assumption | (unfold R3; omega)) (by first | assumption | (unfold R3; omega)) (fun c => ?_) (fun c => absurd (by simp only [zcd] <;> omega) c)
    exact hfin l14 l16 hs
  | succ k ih =>
    intro q s l14 l16 hq hs hfin
    have K := xCl_se (s := s) HC
    have k1 := K.1
    have g5 : seH h s 5 = some (huC F E CB six) := by rw [seH_n (by omega) (by omega)]; exact h5
    have g7 : seH h s 7 = some (bA b) := by rw [seH_n (by omega) (by omega)]; exact h7
    have bq := dot_bd hd (hb q (by omega))
    have RQ : R6 (dot d (P q) - z) := by unfold R6; omega
    have hbp := hbb p hp
    have h57 := (xup_s : seH h s 57 = some (seC s.1))
    unfold slQ at hfin
    refine tt_op rfl rfl ?_
    refine tt_op rfl rfl ?_
    refine z_icmp rfl (by first | assumption | (unfold R3; omega)) (by first | assumption | (unfold R3; omega)) (fun c => absurd c (by simp only [zcd] <;> omega)) (fun c => ?_)
    refine tt_op rfl rfl ?_
    refine tt_get rfl (by assumption) (by rfl) ?_
    refine tt_op rfl rfl ?_
    refine tt_op rfl rfl ?_
    refine tt_op rfl rfl ?_
    refine tt_op rfl rfl ?_
    refine tt_pV rfl rfl rfl k1 rfl (c_sum K q (by omega) _ _ _) ?_
    refine tt_op rfl rfl ?_
    refine z_lsub rfl ?_
    refine tt_op rfl rfl ?_
    refine tt_op rfl rfl ?_
    refine tt_op rfl rfl ?_
    have nx : ∀ l16', ¬ (((dot d (P p) - z < 0 ∧ 0 < dot d (P q) - z) ∨ (0 < dot d (P p) - z ∧ dot d (P q) - z < 0)) ∧ (b p).testBit q = true) → xT xmX4_slice (5, 0, 0, 0, 0) 173 [some (.ref 57), some (.ref 5), some (zJ d.1), none, some (zJ d.2.1), none, some (zJ d.2.2), none, some (zJ z), none, some (zI p), some (zJ (dot d (P p) - z)), none, some (zI q), some (zJ (dot d (P q) - z)), none, l16'] [] n (seH h s) Q := by
      intro l16' hno
      rw [if_neg hno] at hfin
      refine z_iinc rfl rfl rfl ?_
      refine tt_goto rfl ?_
      exact ih (q + 1) s _ _ (by omega) hs hfin
    have ap : ((dot d (P p) - z < 0 ∧ 0 < dot d (P q) - z) ∨ (0 < dot d (P p) - z ∧ dot d (P q) - z < 0)) → xT xmX4_slice (5, 0, 0, 0, 0) 124 [some (.ref 57), some (.ref 5), some (zJ d.1), none, some (zJ d.2.1), none, some (zJ d.2.2), none, some (zJ z), none, some (zI p), some (zJ (dot d (P p) - z)), none, some (zI q), some (zJ (dot d (P q) - z)), none, l16] [] n (seH h s) Q := by
      intro hap
      refine tt_op rfl rfl ?_
      refine tt_goto rfl ?_
      refine tt_op rfl rfl ?_
      refine tt_op rfl rfl ?_
      refine z_if rfl (by first | assumption | (unfold R3; omega)) (fun c => absurd c (by simp only [zcd] <;> omega)) (fun c => ?_)
      refine tt_op rfl rfl ?_
      refine tt_get rfl (by assumption) (by rfl) ?_
      refine tt_op rfl rfl ?_
      refine z_iald rfl (by assumption) rfl (by omega) (by decide) ?_
      refine tt_op rfl rfl ?_
      refine z_tb rfl rfl rfl (by omega) (by omega) ?_
      refine z_if rfl (by split <;> exact ⟨by decide, by decide⟩) (fun c1 => ?_) (fun c1 => ?_)
      · refine nx _ (fun y => ?_)
        simp [zcd, y.2] at c1
      · have hbit : (b p).testBit q = true := by
          cases hx : (b p).testBit q with
          | true => rfl
          | false => simp [zcd, hx] at c1
        rw [if_pos ⟨hap, hbit⟩] at hfin
        refine tt_op rfl rfl ?_
        refine tt_op rfl rfl ?_
        refine tt_get rfl (by assumption) (by rfl) ?_
        refine tt_op rfl rfl ?_
        refine tt_op rfl rfl ?_
        refine z_abs rfl RQ ?_
        refine tt_op rfl rfl ?_
        refine tt_op rfl rfl ?_
        refine z_abs rfl RP ?_
        refine tt_callV (M' := xmX4_mix) rfl rfl rfl h57 rfl (c_mix HC p q hp (by omega) _ _ ⟨by omega, by omega⟩ ⟨by omega, by omega⟩ s hs.1 hs.2) ?_
        rintro r n' h' ⟨rfl, rfl, rfl⟩
        refine z_iinc rfl rfl rfl ?_
        refine tt_goto rfl ?_
        exact ih (q + 1) _ _ _ (by omega) (isv_ok (mxV_bd hb hp (by omega) ⟨by omega, by omega⟩ ⟨by omega, by omega⟩) hs.1 hs.2) hfin
    have na : ¬ ((dot d (P p) - z < 0 ∧ 0 < dot d (P q) - z) ∨ (0 < dot d (P p) - z ∧ dot d (P q) - z < 0)) → xT xmX4_slice (5, 0, 0, 0, 0) 128 [some (.ref 57), some (.ref 5), some (zJ d.1), none, some (zJ d.2.1), none, some (zJ d.2.2), none, some (zJ z), none, some (zI p), some (zJ (dot d (P p) - z)), none, some (zI q), some (zJ (dot d (P q) - z)), none, l16] [] n (seH h s) Q := by
      intro hna
      refine tt_op rfl rfl ?_
      refine tt_op rfl rfl ?_
      refine tt_op rfl rfl ?_
      refine z_if rfl (by first | assumption | (unfold R3; omega)) (fun c => ?_) (fun c => absurd (by simp only [zcd] <;> omega) c)
      exact nx _ (fun y => hna y.1)
    have at110 : ¬ (dot d (P p) - z < 0 ∧ 0 < dot d (P q) - z) → xT xmX4_slice (5, 0, 0, 0, 0) 110 [some (.ref 57), some (.ref 5), some (zJ d.1), none, some (zJ d.2.1), none, some (zJ d.2.2), none, some (zJ z), none, some (zI p), some (zJ (dot d (P p) - z)), none, some (zI q), some (zJ (dot d (P q) - z)), none, l16] [] n (seH h s) Q := by
      intro hn
      refine tt_op rfl rfl ?_
      refine tt_op rfl rfl ?_
      refine z_lif rfl rfl RP R0 (fun c3 => na (fun y => ?_)) (fun c3 => ?_)
      · have c3 : dot d (P p) - z ≤ 0 := c3
        omega
      have c3 : ¬ dot d (P p) - z ≤ 0 := c3
      refine tt_op rfl rfl ?_
      refine tt_op rfl rfl ?_
      refine z_lif rfl rfl RQ R0 (fun c4 => na (fun y => ?_)) (fun c4 => ap (Or.inr ⟨by omega, ?_⟩))
      · have c4 : 0 ≤ dot d (P q) - z := c4
        omega
      · have c4 : ¬ 0 ≤ dot d (P q) - z := c4
        omega
    refine z_lif rfl rfl RP R0 (fun c1 => at110 (fun y => ?_)) (fun c1 => ?_)
    · have c1 : 0 ≤ dot d (P p) - z := c1
      omega
    have c1 : ¬ 0 ≤ dot d (P p) - z := c1
    refine tt_op rfl rfl ?_
    refine tt_op rfl rfl ?_
    refine z_lif rfl rfl RQ R0 (fun c2 => ap (Or.inl ⟨by omega, c2⟩)) (fun c2 => at110 (fun y => c2 y.2))
set_option maxRecDepth 10000 in
set_option maxHeartbeats 2000000 in
theorem c_slice_p (HC : xCl h m P) {F E CB : Nat} {six : Int} (h5 : h 5 = some (huC F E CB six)) (hCB : CB < 16384) (b : Nat → Nat) (h7 : h 7 = some (bA b)) (hbb : ∀ j, j < 14 → b j < 16384) (d : V3) (hd : vbd 20 d) (z : Int) (hz : -2000 ≤ z ∧ z ≤ 2000) : ∀ (k p : Nat) (s : Nat × (Nat → Int)) (l11 l13 l14 l16 : Option Value), p + k = 14 → sOk s → xT xmX4_slice (5, 0, 0, 0, 0) 8 [some (.ref 57), some (.ref 5), some (zJ d.1), none, some (zJ d.2.1), none, some (zJ d.2.2), none, some (zJ z), none, some (zI p), l11, none, l13, l14, none, l16] [] n (seH h s) (fun r n' h' => r = none ∧ n' = n ∧ h' = seH h (slP P CB b d z k p s) ∧ sOk (slP P CB b d z k p s)) := by
  have hb := HC.2.2.2.2.2
  have R0 : R6 0 := ⟨by decide, by decide⟩
  intro k
  induction k with
  | zero =>
    intro p s l11 l13 l14 l16 hp hs
    refine tt_op rfl rfl ?_
    refine tt_op rfl rfl ?_
    refine z_icmp rfl (by first | assumption | (unfold R3; omega)) (by first | assumption | (unfold R3; omega)) (fun c => ?_) (fun c => absurd (by simp only [zcd] <;> omega) c)
    refine tt_return rfl rfl (Nat.le_of_ble_eq_true rfl) (Nat.le_of_ble_eq_true rfl) ?_
    exact ⟨rfl, rfl, rfl, hs⟩
  | succ k ih =>
    intro p s l11 l13 l14 l16 hp hs
    have K := xCl_se (s := s) HC
    have k1 := K.1
    have g5 : seH h s 5 = some (huC F E CB six) := by rw [seH_n (by omega) (by omega)]; exact h5
    have h57 := (xup_s : seH h s 57 = some (seC s.1))
    have bp := dot_bd hd (hb p (by omega))
    have RP : R6 (dot d (P p) - z) := by unfold R6; omega
    unfold slP
    refine tt_op rfl rfl ?_
    refine tt_op rfl rfl ?_
    refine z_icmp rfl (by first | assumption | (unfold R3; omega)) (by first | assumption | (unfold R3; omega)) (fun c => absurd c (by simp only [zcd] <;> omega)) (fun c => ?_)
    refine tt_op rfl rfl ?_
    refine tt_op rfl rfl ?_
    refine tt_pV rfl rfl rfl g5 rfl (c_isCorner g5 p (by omega) hCB) ?_
    refine z_if rfl (by split <;> exact ⟨by decide, by decide⟩) (fun c1 => ?_) (fun c1 => ?_)
    rotate_left
    · cases hx : CB.testBit p with
      | true => simp [zcd, hx] at c1
      | false =>
        simp only [Bool.false_eq_true, if_false]
        refine tt_goto rfl ?_
        refine z_iinc rfl rfl rfl ?_
        refine tt_goto rfl ?_
        exact ih (p + 1) s _ _ _ _ (by omega) hs
    have hbit : CB.testBit p = true := by
      cases hx : CB.testBit p with
      | true => rfl
      | false => simp [zcd, hx] at c1
    rw [if_pos hbit]
    refine tt_op rfl rfl ?_
    refine tt_get rfl (by assumption) (by rfl) ?_
    refine tt_op rfl rfl ?_
    refine tt_op rfl rfl ?_
    refine tt_op rfl rfl ?_
    refine tt_op rfl rfl ?_
    refine tt_pV rfl rfl rfl k1 rfl (c_sum K p (by omega) _ _ _) ?_
    refine tt_op rfl rfl ?_
    refine z_lsub rfl ?_
    refine tt_op rfl rfl ?_
    refine tt_op rfl rfl ?_
    refine tt_op rfl rfl ?_
    have rest : ∀ s', sOk s' → xT xmX4_slice (5, 0, 0, 0, 0) 67 [some (.ref 57), some (.ref 5), some (zJ d.1), none, some (zJ d.2.1), none, some (zJ d.2.2), none, some (zJ z), none, some (zI p), some (zJ (dot d (P p) - z)), none, l13, l14, none, l16] [] n (seH h s') (fun r n' h' => r = none ∧ n' = n ∧ h' = seH h (slP P CB b d z k (p + 1) (slQ P b d z p p 0 s')) ∧ sOk (slP P CB b d z k (p + 1) (slQ P b d z p p 0 s'))) := by
      intro s' hs'
      refine tt_op rfl rfl ?_
      refine tt_op rfl rfl ?_
      refine c_slice_q HC h5 b h7 hbb d hd z hz p (by omega) _ p 0 s' _ _ (by omega) hs' (fun l14 l16 hok => ?_)
      refine z_iinc rfl rfl rfl ?_
      refine tt_goto rfl ?_
      exact ih (p + 1) _ _ _ _ _ (by omega) hok
    refine z_lif rfl rfl RP R0 (fun c2 => ?_) (fun c2 => ?_)
    · have c2 : ¬ dot d (P p) - z = 0 := c2
      rw [if_neg c2]
      exact rest s hs
    · have c2 : ¬ dot d (P p) - z ≠ 0 := c2
      rw [if_pos (by omega)]
      refine tt_op rfl rfl ?_
      refine tt_op rfl rfl ?_
      refine tt_get rfl (by assumption) (by rfl) ?_
      refine tt_op rfl rfl ?_
      refine tt_op rfl rfl ?_
      refine tt_op rfl rfl ?_
      refine tt_op rfl rfl ?_
      refine tt_callV (M' := xmX4_mix) rfl rfl rfl h57 rfl (c_mix HC p p (by omega) (by omega) 1 0 ⟨by omega, by omega⟩ ⟨by omega, by omega⟩ s hs.1 hs.2) ?_
      rintro r n' h' ⟨rfl, rfl, rfl⟩
      exact rest _ (isv_ok (mxV_bd hb (by omega) (by omega) ⟨by omega, by omega⟩ ⟨by omega, by omega⟩) hs.1 hs.2)
set_option maxRecDepth 10000 in
theorem c_slice (HC : xCl h m P) {F E CB : Nat} {six : Int} (h5 : h 5 = some (huC F E CB six)) (hCB : CB < 16384) (b : Nat → Nat) (h7 : h 7 = some (bA b)) (hbb : ∀ j, j < 14 → b j < 16384) (d : V3) (hd : vbd 20 d) (z : Int) (hz : -2000 ≤ z ∧ z ≤ 2000) (h57 : h 57 = some (seC cnt)) (h58 : h 58 = some (zL 96 N)) (hN : sBd N) : xCall xmX4_slice 5 0 0 [.ref 57, .ref 5, zJ d.1, zJ d.2.1, zJ d.2.2, zJ z] n h (fun r n' h' => r = none ∧ n' = n ∧ h' = seH h (slP P CB b d z 14 0 (0, N)) ∧ sOk (slP P CB b d z 14 0 (0, N))) := by
  refine xCall.of xgX4_slice rfl ?_
  refine tt_op rfl rfl ?_
  refine tt_op rfl rfl ?_
  refine tt_put rfl (h57) rfl (by decide) (by rfl) (by rfl) rfl ?_
  refine tt_op rfl rfl ?_
  refine tt_op rfl rfl ?_
  have := c_slice_p (n := n) HC h5 hCB b h7 hbb d hd z hz 14 0 (0, N) none none none none rfl ⟨Nat.zero_le _, hN⟩
  have e : seH h (0, N) = xup h 57 (seC 0) := by
    show xup (xup h 58 (zL 96 N)) 57 (seC 0) = _
    rw [xup_same h58]
  rw [e] at this
  exact this
end SE
