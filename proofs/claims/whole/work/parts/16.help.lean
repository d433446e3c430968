/-! Bits as natural numbers; the static helpers -/
theorem sl31 : ∀ k, k < 32 → ((nI k &&& 31).toBitVec.smod 32).toNat = k := by decide
theorem nz_and (a b : Nat) : nI a &&& nI b = nI (a &&& b) := by
  apply Int32.toBitVec.inj
  rw [Int32.toBitVec_and]
  show BitVec.ofNat 32 a &&& BitVec.ofNat 32 b = BitVec.ofNat 32 (a &&& b)
  rw [BitVec.ofNat_and]
theorem nz_or (a b : Nat) : nI a ||| nI b = nI (a ||| b) := by
  apply Int32.toBitVec.inj
  rw [Int32.toBitVec_or]
  show BitVec.ofNat 32 a ||| BitVec.ofNat 32 b = BitVec.ofNat 32 (a ||| b)
  rw [BitVec.ofNat_or]
/-- what is in a and not in b -/
def bdf (a b : Nat) : Nat := a ^^^ (a &&& b)
theorem bdf_bit (a b k : Nat) : (bdf a b).testBit k = (a.testBit k && !b.testBit k) := by
  simp only [bdf, Nat.testBit_xor, Nat.testBit_and]
  cases a.testBit k <;> cases b.testBit k <;> rfl
theorem nz_dif (a b : Nat) : nI a &&& (nI b ^^^ (-1)) = nI (bdf a b) := by
  apply Int32.toBitVec.inj
  rw [Int32.toBitVec_and, Int32.toBitVec_xor]
  show BitVec.ofNat 32 a &&& (BitVec.ofNat 32 b ^^^ BitVec.allOnes 32) = BitVec.ofNat 32 (a ^^^ (a &&& b))
  apply BitVec.eq_of_getLsbD_eq
  intro i hi
  simp only [BitVec.getLsbD_and, BitVec.getLsbD_xor, BitVec.getLsbD_ofNat, BitVec.getLsbD_allOnes, hi, decide_true, Bool.true_and, Nat.testBit_xor, Nat.testBit_and]
  cases a.testBit i <;> cases b.testBit i <;> rfl
theorem bit_div (n k : Nat) : ((n / 2 ^ k % 2 : Nat) : Int) = if n.testBit k = true then 1 else 0 := by
  rw [Nat.testBit_eq_decide_div_mod_eq]
  by_cases h : n / 2 ^ k % 2 = 1
  · simp [h]
  · have h0 : n / 2 ^ k % 2 = 0 := by omega
    simp [h0]
theorem z6_lN (k : Nat) : lN k = Int64.ofInt (k : Int) := (Int64.ofInt_eq_ofNat (n := k)).symm
section XBIT
variable {M : xM} {B : xB} {pc nx b hh i p1 p2 b1 b2 hh1 hh2 : Nat} {a a1 a2 : Int} {l : xL} {st : List Value} {n : Nat} {h : xHp} {Q : xQt} {v k w : Nat}
theorem z_tb (hf1 : xfe M pc = some (.ishr, p1, a1, b1, hh1)) (hf2 : xfe M p1 = some (.iconst 1, p2, 1, b2, hh2)) (hf3 : xfe M p2 = some (.iand, nx, a, b, hh)) (hk : k < 32) (hv : v < 2147483648) (kk : xT M B nx l (zI (if v.testBit k = true then 1 else 0) :: st) n h Q) : xT M B pc l (zI k :: zI v :: st) n h Q := by
  refine tt_op hf1 rfl (tt_op hf2 rfl (tt_op hf3 rfl ?_))
  rw [← z3_nI k, ← z3_nI v, pk_shrN hv _ k (sl31 k hk), show (Int32.ofInt 1) = (1 : Int32) from rfl, pk_andN (Nat.lt_of_le_of_lt (Nat.div_le_self _ _) (by omega)) 1 (by decide), z3_nI, show ((v / 2 ^ k % 2 ^ 1 : Nat) : Int) = _ from bit_div v k]
  exact kk
theorem z_shl1 (hf : xfe M pc = some (.ishl, nx, a, b, hh)) (hk : k < 31) (kk : xT M B nx l (zI ((2 ^ k : Nat) : Int) :: st) n h Q) : xT M B pc l (zI k :: zI 1 :: st) n h Q := by
  refine tt_op hf rfl ?_
  have hp : 2 ^ k < 2 ^ 31 := Nat.pow_lt_pow_right (by decide) hk
  rw [← z3_nI k, show Int32.ofInt 1 = nI 1 from rfl, pk_shlN _ k (sl31 k (by omega)) (by omega), Nat.one_mul, z3_nI]
  exact kk
theorem z_ior (hf : xfe M pc = some (.ior, nx, a, b, hh)) (kk : xT M B nx l (zI ((v ||| w : Nat) : Int) :: st) n h Q) : xT M B pc l (zI w :: zI v :: st) n h Q := by
  refine tt_op hf rfl ?_
  rw [← z3_nI v, ← z3_nI w, nz_or, z3_nI]
  exact kk
theorem z_iand (hf : xfe M pc = some (.iand, nx, a, b, hh)) (kk : xT M B nx l (zI ((v &&& w : Nat) : Int) :: st) n h Q) : xT M B pc l (zI w :: zI v :: st) n h Q := by
  refine tt_op hf rfl ?_
  rw [← z3_nI v, ← z3_nI w, nz_and, z3_nI]
  exact kk
theorem z_dif (hf1 : xfe M pc = some (.iconst (-1), p1, -1, b1, hh1)) (hf2 : xfe M p1 = some (.ixor, p2, a2, b2, hh2)) (hf3 : xfe M p2 = some (.iand, nx, a, b, hh)) (kk : xT M B nx l (zI ((bdf v w : Nat) : Int) :: st) n h Q) : xT M B pc l (zI w :: zI v :: st) n h Q := by
  refine tt_op hf1 rfl (tt_op hf2 rfl (tt_op hf3 rfl ?_))
  rw [← z3_nI v, ← z3_nI w, show Int32.ofInt (-1) = (-1 : Int32) from rfl, nz_dif, z3_nI]
  exact kk
theorem z_lrem (hf : xfe M pc = some (.lrem, nx, a, b, hh)) (h0 : 0 < w) (hv : v < 9223372036854775808) (hw : w < 9223372036854775808) (kk : xT M B nx l (zJ ((v % w : Nat) : Int) :: st) n h Q) : xT M B pc l (zJ w :: zJ v :: st) n h Q := by
  refine tt_lrem hf ?_ ?_
  · rw [show (0 : Int64) = Int64.ofInt 0 from rfl, z6_eq ⟨by omega, by omega⟩ ⟨by decide, by decide⟩]
    omega
  · rw [← z6_lN v, ← z6_lN w, pk_lRem hv h0 hw, z6_lN]
    exact kk
theorem z_irem (hf : xfe M pc = some (.irem, nx, a, b, hh)) (h0 : 0 < w) (hv : v < 2147483648) (hw : w < 2147483648) (kk : xT M B nx l (zI ((v % w : Nat) : Int) :: st) n h Q) : xT M B pc l (zI w :: zI v :: st) n h Q := by
  refine tt_irem hf ?_ ?_
  · rw [show (0 : Int32) = Int32.ofInt 0 from rfl, z3_eq ⟨by omega, by omega⟩ ⟨by decide, by decide⟩]
    omega
  · rw [← z3_nI v, ← z3_nI w, pk_rem hv h0 hw, z3_nI]
    exact kk
theorem z_ldiv {x y : Int} (hf : xfe M pc = some (.ldiv, nx, a, b, hh)) (h0 : y ≠ 0) (hx : R6 x) (hx2 : x ≠ -9223372036854775808) (hy : R6 y) (kk : xT M B nx l (zJ (x.tdiv y) :: st) n h Q) : xT M B pc l (zJ y :: zJ x :: st) n h Q := by
  refine tt_ldiv hf ?_ ?_
  · rw [show (0 : Int64) = Int64.ofInt 0 from rfl, z6_eq hy ⟨by decide, by decide⟩]
    exact h0
  · rw [← Int64.ofInt_tdiv hx.1 hx.2 hy.1 hy.2]
    exact kk
theorem z_idiv {x y : Int} (hf : xfe M pc = some (.idiv, nx, a, b, hh)) (h0 : y ≠ 0) (hx : R3 x) (hx2 : x ≠ -2147483648) (hy : R3 y) (kk : xT M B nx l (zI (x.tdiv y) :: st) n h Q) : xT M B pc l (zI y :: zI x :: st) n h Q := by
  refine tt_idiv hf ?_ ?_
  · rw [show (0 : Int32) = Int32.ofInt 0 from rfl, z3_eq hy ⟨by decide, by decide⟩]
    exact h0
  · rw [← Int32.ofInt_tdiv hx.1 hx.2 hy.1 hy.2]
    exact kk
theorem z_abs {d mc ms cu su : Nat} {x : Int} (hf : xfe M pc = some (.invokestatic i, nx, a, 144, hh)) (hx : R6 x) (kk : xT M (d, mc, ms, cu, su) nx l (zJ (x.natAbs : Int) :: st) n h Q) (hd : 1 ≤ d := by exact Nat.le_of_ble_eq_true rfl) (h1 : cu ≤ mc := by exact Nat.le_of_ble_eq_true rfl) (h2 : su ≤ ms := by exact Nat.le_of_ble_eq_true rfl) (hW : xcat st ≤ 8 := by exact Nat.le_of_ble_eq_true rfl) : xT M (d, mc, ms, cu, su) pc l (zJ x :: st) n h Q := by
  refine tt_abs hf ?_ hd h1 h2 hW
  have e : (if 0 < Int64.ofInt x then Int64.ofInt x else -Int64.ofInt x) = Int64.ofInt (x.natAbs : Int) := by
    have hq : (0 : Int64) < Int64.ofInt x ↔ 0 < x := z6_lt (a := 0) ⟨by decide, by decide⟩ hx
    by_cases hp : 0 < x
    · rw [if_pos (hq.mpr hp), show (x.natAbs : Int) = x by omega]
    · rw [if_neg (fun z => hp (hq.mp z)), ← Int64.ofInt_neg, show (x.natAbs : Int) = -x by omega]
  rw [e]
  exact kk
end XBIT
/-- Euclid's steps end -/
def euE : Nat → Nat → Nat → Prop
  | 0, _, b => b = 0
  | k + 1, a, b => b = 0 ∨ euE k b (a % b)
theorem euE_of : ∀ (j a b : Nat), b < 2 ^ j → euE (2 * j) a b
  | 0, a, b, h => by simp at h; exact h
  | j + 1, a, b, h => by
    rw [show 2 * (j + 1) = 2 * j + 1 + 1 by omega]
    by_cases hb : b = 0
    · exact Or.inl hb
    refine Or.inr ?_
    by_cases hr : a % b = 0
    · exact Or.inl hr
    refine Or.inr (euE_of j _ _ ?_)
    have h1 : a % b < b := Nat.mod_lt _ (by omega)
    have h2 : b % (a % b) < a % b := Nat.mod_lt _ (by omega)
    have h3 : b % (a % b) ≤ b - a % b := by
      rw [Nat.mod_eq_sub_mod (by omega)]
      exact Nat.mod_le _ _
    have h4 : 2 ^ (j + 1) = 2 * 2 ^ j := by rw [Nat.pow_succ]; omega
    omega
set_option maxRecDepth 10000 in
theorem c_div_loop (G n : Nat) (h : xHp) (x0 x2 : Int) : ∀ (k s u w : Nat) (l9 : Option Value), s + k = 128 → euE k u w → Nat.gcd u w = G → u < 9223372036854775808 → w < 9223372036854775808 → xT xmX5_divisor (2, 0, 0, 0, 0) 15 [some (zJ x0), none, some (zJ x2), none, some (zJ u), none, some (zJ w), none, some (zI s), l9, none] [] n h (fun r n' h' => r = some (zJ G) ∧ n' = n ∧ h' = h) := by
  intro k
  induction k with
  | zero =>
    intro s u w l9 hs he hg hu hw
    refine tt_op rfl rfl ?_
    refine tt_op rfl rfl ?_
    refine z_icmp rfl (by first | assumption | (unfold R3; omega)) (by first | assumption | (unfold R3; omega)) (fun c => ?_) (fun c => absurd (by simp only [zcd] <;> omega) c)
    refine tt_op rfl rfl ?_
    refine tt_lreturn rfl rfl (Nat.le_of_ble_eq_true rfl) (Nat.le_of_ble_eq_true rfl) ?_
    have he : w = 0 := he
    subst he
    rw [Nat.gcd_zero_right] at hg
    subst hg
    exact ⟨rfl, rfl, rfl⟩
  | succ k ih =>
    intro s u w l9 hs he hg hu hw
    refine tt_op rfl rfl ?_
    refine tt_op rfl rfl ?_
    refine z_icmp rfl (by first | assumption | (unfold R3; omega)) (by first | assumption | (unfold R3; omega)) (fun c => absurd c (by simp only [zcd] <;> omega)) (fun c => ?_)
    refine tt_op rfl rfl ?_
    refine tt_op rfl rfl ?_
    refine z_lif rfl rfl ⟨by omega, by omega⟩ ⟨by decide, by decide⟩ (fun c => ?_) (fun c => ?_)
    · simp only [zcd] at c
      refine tt_op rfl rfl ?_
      refine tt_lreturn rfl rfl (Nat.le_of_ble_eq_true rfl) (Nat.le_of_ble_eq_true rfl) ?_
      have hw0 : w = 0 := by omega
      subst hw0
      rw [Nat.gcd_zero_right] at hg
      subst hg
      exact ⟨rfl, rfl, rfl⟩
    · simp only [zcd] at c
      refine tt_op rfl rfl ?_
      refine tt_op rfl rfl ?_
      refine z_lrem rfl (by omega) hu hw ?_
      refine tt_op rfl rfl ?_
      refine tt_op rfl rfl ?_
      refine tt_op rfl rfl ?_
      refine tt_op rfl rfl ?_
      refine tt_op rfl rfl ?_
      refine z_iinc rfl rfl rfl ?_
      refine tt_goto rfl ?_
      refine ih (s + 1) w (u % w) _ (by omega) (he.resolve_left (by omega)) ?_ hw (Nat.lt_trans (Nat.mod_lt _ (by omega)) hw)
      rw [← hg, Nat.gcd_comm u w, Nat.gcd_rec w u, Nat.gcd_comm]
set_option maxRecDepth 10000 in
theorem c_divisor (x y : Int) (hx : -4611686018427387904 ≤ x ∧ x ≤ 4611686018427387904) (hy : -4611686018427387904 ≤ y ∧ y ≤ 4611686018427387904) (n : Nat) (h : xHp) : xPure xmX5_divisor 2 [zJ x, zJ y] n h (zJ (Int.gcd x y)) := by
  refine xCall.of xgX5_divisor rfl ?_
  refine tt_op rfl rfl ?_
  refine z_abs rfl ⟨by omega, by omega⟩ ?_
  refine tt_op rfl rfl ?_
  refine tt_op rfl rfl ?_
  refine z_abs rfl ⟨by omega, by omega⟩ ?_
  refine tt_op rfl rfl ?_
  refine tt_op rfl rfl ?_
  refine tt_op rfl rfl ?_
  exact c_div_loop _ n h x y 128 0 x.natAbs y.natAbs none rfl (euE_of 64 _ _ (by omega)) rfl (by omega) (by omega)
set_option maxRecDepth 10000 in
theorem c_fraction (x y : Int) (pt : Nat) (hx : -4611686018427387904 ≤ x ∧ x ≤ 4611686018427387904) (hy : 0 < y ∧ y ≤ 4611686018427387904) (hp : pt < 2) (n : Nat) (h : xHp) : xPure xmX5_fraction 3 [zJ x, zJ y, zI pt] n h (zJ ((if pt = 0 then x else y).tdiv (Int.gcd x y))) := by
  have hg0 : 0 < Int.gcd x y := Int.gcd_pos_of_ne_zero_right x (by omega)
  have hgy : (Int.gcd x y : Int) ≤ y := Int.le_of_dvd hy.1 (Int.gcd_dvd_right x y)
  refine xCall.of xgX5_fraction rfl ?_
  refine tt_op rfl rfl ?_
  refine tt_op rfl rfl ?_
  refine tt_pS rfl rfl rfl rfl (c_divisor x y hx ⟨by omega, by omega⟩ n h) ?_
  refine tt_op rfl rfl ?_
  refine tt_op rfl rfl ?_
  refine tt_op rfl rfl ?_
  refine z_lif rfl rfl ⟨by omega, by omega⟩ ⟨by decide, by decide⟩ (fun c => ?_) (fun c => absurd (by simp only [zcd]; omega) c)
  refine tt_op rfl rfl ?_
  have hdiv : ∀ z : Int, R6 z → z ≠ -9223372036854775808 → xT xmX5_fraction (3, 0, 0, 0, 0) 28 [some (zJ x), none, some (zJ y), none, some (zI pt), some (zJ (Int.gcd x y)), none] [zJ z] n h (fun r n' h' => r = some (zJ (z.tdiv (Int.gcd x y))) ∧ n' = n ∧ h' = h) := by
    intro z hz hz2
    refine tt_op rfl rfl ?_
    refine z_ldiv rfl (by omega) hz hz2 ⟨by omega, by omega⟩ ?_
    refine tt_lreturn rfl rfl (Nat.le_of_ble_eq_true rfl) (Nat.le_of_ble_eq_true rfl) ?_
    exact ⟨rfl, rfl, rfl⟩
  refine z_if rfl (by first | assumption | (unfold R3; omega)) (fun c => ?_) (fun c => ?_)
  · simp only [zcd] at c
    rw [if_neg (by omega)]
    refine tt_op rfl rfl ?_
    exact hdiv y ⟨by omega, by omega⟩ (by omega)
  · simp only [zcd] at c
    rw [if_pos (by omega)]
    refine tt_op rfl rfl ?_
    refine tt_goto rfl ?_
    exact hdiv x ⟨by omega, by omega⟩ (by omega)
/-- at most so far from 0 -/
def zwi (x k : Int) : Prop := -k ≤ x ∧ x ≤ k
set_option maxRecDepth 10000 in
theorem c_within (x k : Int) (hx : R3 x) (hk : 0 ≤ k ∧ k ≤ 2147483647) (v : Value) (hv1 : zwi x k → v = zI 1) (hv0 : ¬ zwi x k → v = zI 0) (n : Nat) (h : xHp) : xPure xmX5_within 1 [zI x, zI k] n h v := by
  refine xCall.of xgX5_within rfl ?_
  refine tt_op rfl rfl ?_
  refine tt_op rfl rfl ?_
  refine z_ineg rfl ?_
  refine z_icmp rfl hx ⟨by omega, by omega⟩ (fun c => ?_) (fun c => ?_)
  · simp only [zcd] at c
    refine tt_op rfl rfl ?_
    refine tt_ireturn rfl rfl (by rfl) (Nat.le_of_ble_eq_true rfl) (Nat.le_of_ble_eq_true rfl) ?_
    exact ⟨congrArg some (hv0 (fun q => by unfold zwi at q; omega)).symm, rfl, rfl⟩
  · simp only [zcd] at c
    refine tt_op rfl rfl ?_
    refine tt_op rfl rfl ?_
    refine z_icmp rfl hx ⟨by omega, by omega⟩ (fun c2 => ?_) (fun c2 => ?_)
    · simp only [zcd] at c2
      refine tt_op rfl rfl ?_
      refine tt_ireturn rfl rfl (by rfl) (Nat.le_of_ble_eq_true rfl) (Nat.le_of_ble_eq_true rfl) ?_
      exact ⟨congrArg some (hv0 (fun q => by unfold zwi at q; omega)).symm, rfl, rfl⟩
    · simp only [zcd] at c2
      refine tt_op rfl rfl ?_
      refine tt_goto rfl ?_
      refine tt_ireturn rfl rfl (by rfl) (Nat.le_of_ble_eq_true rfl) (Nat.le_of_ble_eq_true rfl) ?_
      exact ⟨congrArg some (hv1 (by unfold zwi; omega)).symm, rfl, rfl⟩
set_option maxRecDepth 10000 in
theorem c_isAxis (x : Int) (hx : R3 x) (v : Value) (hv1 : 0 ≤ x ∧ x ≤ 2 → v = zI 1) (hv0 : ¬ (0 ≤ x ∧ x ≤ 2) → v = zI 0) (n : Nat) (h : xHp) : xPure xmX5_isAxis 1 [zI x] n h v := by
  refine xCall.of xgX5_isAxis rfl ?_
  refine tt_op rfl rfl ?_
  refine z_if rfl (by first | assumption | (unfold R3; omega)) (fun c => ?_) (fun c => ?_)
  · simp only [zcd] at c
    refine tt_op rfl rfl ?_
    refine tt_ireturn rfl rfl (by rfl) (Nat.le_of_ble_eq_true rfl) (Nat.le_of_ble_eq_true rfl) ?_
    exact ⟨congrArg some (hv0 (by omega)).symm, rfl, rfl⟩
  · simp only [zcd] at c
    refine tt_op rfl rfl ?_
    refine tt_op rfl rfl ?_
    refine z_icmp rfl (by first | assumption | (unfold R3; omega)) (by first | assumption | (unfold R3; omega)) (fun c2 => ?_) (fun c2 => ?_)
    · simp only [zcd] at c2
      refine tt_op rfl rfl ?_
      refine tt_ireturn rfl rfl (by rfl) (Nat.le_of_ble_eq_true rfl) (Nat.le_of_ble_eq_true rfl) ?_
      exact ⟨congrArg some (hv0 (by omega)).symm, rfl, rfl⟩
    · simp only [zcd] at c2
      refine tt_op rfl rfl ?_
      refine tt_goto rfl ?_
      refine tt_ireturn rfl rfl (by rfl) (Nat.le_of_ble_eq_true rfl) (Nat.le_of_ble_eq_true rfl) ?_
      exact ⟨congrArg some (hv1 (by omega)).symm, rfl, rfl⟩
set_option maxRecDepth 10000 in
theorem c_isPart (x : Int) (hx : R3 x) (v : Value) (hv1 : x = 0 ∨ x = 1 → v = zI 1) (hv0 : ¬ (x = 0 ∨ x = 1) → v = zI 0) (n : Nat) (h : xHp) : xPure xmX5_isPart 1 [zI x] n h v := by
  refine xCall.of xgX5_isPart rfl ?_
  refine tt_op rfl rfl ?_
  refine z_if rfl (by first | assumption | (unfold R3; omega)) (fun c => ?_) (fun c => ?_)
  · simp only [zcd] at c
    refine tt_op rfl rfl ?_
    refine tt_goto rfl ?_
    refine tt_ireturn rfl rfl (by rfl) (Nat.le_of_ble_eq_true rfl) (Nat.le_of_ble_eq_true rfl) ?_
    exact ⟨congrArg some (hv1 (by omega)).symm, rfl, rfl⟩
  · simp only [zcd] at c
    refine tt_op rfl rfl ?_
    refine tt_op rfl rfl ?_
    refine z_icmp rfl (by first | assumption | (unfold R3; omega)) (by first | assumption | (unfold R3; omega)) (fun c2 => ?_) (fun c2 => ?_)
    · simp only [zcd] at c2
      refine tt_op rfl rfl ?_
      refine tt_ireturn rfl rfl (by rfl) (Nat.le_of_ble_eq_true rfl) (Nat.le_of_ble_eq_true rfl) ?_
      exact ⟨congrArg some (hv0 (by omega)).symm, rfl, rfl⟩
    · simp only [zcd] at c2
      refine tt_op rfl rfl ?_
      refine tt_goto rfl ?_
      refine tt_ireturn rfl rfl (by rfl) (Nat.le_of_ble_eq_true rfl) (Nat.le_of_ble_eq_true rfl) ?_
      exact ⟨congrArg some (hv1 (by omega)).symm, rfl, rfl⟩
/-- a direction that is not refused -/
def isDir (a b c : Int) : Prop := (a ≠ 0 ∨ b ≠ 0 ∨ c ≠ 0) ∧ zwi a 20 ∧ zwi b 20 ∧ zwi c 20
set_option maxRecDepth 10000 in
theorem c_isDir (x y z : Int) (hx : R3 x) (hy : R3 y) (hz : R3 z) (v : Value) (hv1 : isDir x y z → v = zI 1) (hv0 : ¬ isDir x y z → v = zI 0) (n : Nat) (h : xHp) : xPure xmX5_isDirection 2 [zI x, zI y, zI z] n h v := by
  refine xCall.of xgX5_isDirection rfl ?_
  have fin0 : ∀ l, ¬ isDir x y z → xT xmX5_isDirection (2, 0, 0, 0, 0) 53 l [] n h (fun r n' h' => r = some v ∧ n' = n ∧ h' = h) := by
    intro l hn
    refine tt_op rfl rfl ?_
    refine tt_ireturn rfl rfl (by rfl) (Nat.le_of_ble_eq_true rfl) (Nat.le_of_ble_eq_true rfl) ?_
    exact ⟨congrArg some (hv0 hn).symm, rfl, rfl⟩
  have some1 : (x ≠ 0 ∨ y ≠ 0 ∨ z ≠ 0) → xT xmX5_isDirection (2, 0, 0, 0, 0) 12 [some (zI x), some (zI y), some (zI z), none] [] n h (fun r n' h' => r = some v ∧ n' = n ∧ h' = h) := by
    intro hs
    refine tt_op rfl rfl ?_
    refine tt_goto rfl ?_
    refine tt_op rfl rfl ?_
    refine tt_op rfl rfl ?_
    refine z_if rfl (by first | assumption | (unfold R3; omega)) (fun c => absurd c (by simp only [zcd] <;> omega)) (fun c => ?_)
    refine tt_op rfl rfl ?_
    refine tt_op rfl rfl ?_
    by_cases w1 : zwi x 20
    · refine tt_pS rfl rfl rfl rfl (c_within x 20 hx ⟨by decide, by decide⟩ (zI 1) (fun _ => rfl) (fun q => absurd w1 q) n h) ?_
      refine z_if rfl (by first | assumption | (unfold R3; omega)) (fun c => absurd c (by simp only [zcd] <;> omega)) (fun c => ?_)
      refine tt_op rfl rfl ?_
      refine tt_op rfl rfl ?_
      by_cases w2 : zwi y 20
      · refine tt_pS rfl rfl rfl rfl (c_within y 20 hy ⟨by decide, by decide⟩ (zI 1) (fun _ => rfl) (fun q => absurd w2 q) n h) ?_
        refine z_if rfl (by first | assumption | (unfold R3; omega)) (fun c => absurd c (by simp only [zcd] <;> omega)) (fun c => ?_)
        refine tt_op rfl rfl ?_
        refine tt_op rfl rfl ?_
        by_cases w3 : zwi z 20
        · refine tt_pS rfl rfl rfl rfl (c_within z 20 hz ⟨by decide, by decide⟩ (zI 1) (fun _ => rfl) (fun q => absurd w3 q) n h) ?_
          refine z_if rfl (by first | assumption | (unfold R3; omega)) (fun c => absurd c (by simp only [zcd] <;> omega)) (fun c => ?_)
          refine tt_op rfl rfl ?_
          refine tt_goto rfl ?_
          refine tt_ireturn rfl rfl (by rfl) (Nat.le_of_ble_eq_true rfl) (Nat.le_of_ble_eq_true rfl) ?_
          exact ⟨congrArg some (hv1 ⟨hs, w1, w2, w3⟩).symm, rfl, rfl⟩
        · refine tt_pS rfl rfl rfl rfl (c_within z 20 hz ⟨by decide, by decide⟩ (zI 0) (fun q => absurd q w3) (fun _ => rfl) n h) ?_
          refine z_if rfl (by first | assumption | (unfold R3; omega)) (fun c => ?_) (fun c => absurd (by simp only [zcd] <;> omega) c)
          exact fin0 _ (fun q => w3 q.2.2.2)
      · refine tt_pS rfl rfl rfl rfl (c_within y 20 hy ⟨by decide, by decide⟩ (zI 0) (fun q => absurd q w2) (fun _ => rfl) n h) ?_
        refine z_if rfl (by first | assumption | (unfold R3; omega)) (fun c => ?_) (fun c => absurd (by simp only [zcd] <;> omega) c)
        exact fin0 _ (fun q => w2 q.2.2.1)
    · refine tt_pS rfl rfl rfl rfl (c_within x 20 hx ⟨by decide, by decide⟩ (zI 0) (fun q => absurd q w1) (fun _ => rfl) n h) ?_
      refine z_if rfl (by first | assumption | (unfold R3; omega)) (fun c => ?_) (fun c => absurd (by simp only [zcd] <;> omega) c)
      exact fin0 _ (fun q => w1 q.2.1)
  refine tt_op rfl rfl ?_
  refine z_if rfl (by first | assumption | (unfold R3; omega)) (fun c1 => ?_) (fun c1 => ?_)
  · simp only [zcd] at c1
    exact some1 (Or.inl c1)
  simp only [zcd] at c1
  refine tt_op rfl rfl ?_
  refine z_if rfl (by first | assumption | (unfold R3; omega)) (fun c2 => ?_) (fun c2 => ?_)
  · simp only [zcd] at c2
    exact some1 (Or.inr (Or.inl c2))
  simp only [zcd] at c2
  refine tt_op rfl rfl ?_
  refine z_if rfl (by first | assumption | (unfold R3; omega)) (fun c3 => ?_) (fun c3 => ?_)
  · simp only [zcd] at c3
    refine tt_op rfl rfl ?_
    refine tt_op rfl rfl ?_
    refine tt_op rfl rfl ?_
    refine z_if rfl (by first | assumption | (unfold R3; omega)) (fun c => ?_) (fun c => absurd (by simp only [zcd] <;> omega) c)
    exact fin0 _ (fun q => by obtain ⟨q, -⟩ := q; omega)
  simp only [zcd] at c3
  exact some1 (Or.inr (Or.inr c3))
/-- the least bit -/
def tzR : Nat → Nat → Nat → Nat
  | 0, k, _ => k
  | f + 1, k, n => if n.testBit k = true then k else tzR f (k + 1) n
def tz (n : Nat) : Nat := tzR 14 0 n
theorem tzR_spec (n : Nat) : ∀ f k, (∃ j, k ≤ j ∧ j < k + f ∧ n.testBit j = true) → n.testBit (tzR f k n) = true ∧ tzR f k n < k + f ∧ k ≤ tzR f k n ∧ ∀ j, k ≤ j → j < tzR f k n → n.testBit j = false
  | 0, k, h => by obtain ⟨j, h1, h2, -⟩ := h; omega
  | f + 1, k, h => by
    unfold tzR
    by_cases hk : n.testBit k = true
    · rw [if_pos hk]
      exact ⟨hk, by omega, by omega, fun j h1 h2 => absurd h2 (by omega)⟩
    · rw [if_neg hk]
      obtain ⟨j, h1, h2, h3⟩ := h
      have hj : k ≠ j := fun e => hk (by rw [e]; exact h3)
      obtain ⟨a1, a2, a3, a4⟩ := tzR_spec n f (k + 1) ⟨j, by omega, by omega, h3⟩
      refine ⟨a1, by omega, by omega, fun i i1 i2 => ?_⟩
      by_cases hi : i = k
      · subst hi; simpa using hk
      · exact a4 i (by omega) i2
theorem tz_low0 : ∀ i, i < 128 → ∀ j, j < 128 → 0 < 128 * i + j → (nI (128 * i + j) ^^^ (-1)) &&& (nI (128 * i + j) - 1) = nI (2 ^ tz (128 * i + j) - 1) ∧ tz (128 * i + j) < 14 := by decide +kernel
theorem tz_low (n : Nat) (hn : n < 16384) (h0 : 0 < n) : (nI n ^^^ (-1)) &&& (nI n - 1) = nI (2 ^ tz n - 1) ∧ tz n < 14 := by
  have h := tz_low0 (n / 128) (by omega) (n % 128) (by omega)
  rw [show 128 * (n / 128) + n % 128 = n by omega] at h
  exact h h0
set_option maxRecDepth 10000 in
set_option maxHeartbeats 2000000 in
theorem c_ntz (w : Nat) (hw : w < 16384) (h0 : 0 < w) (n : Nat) (h : xHp) : xPure xmJ6_numberOfTrailingZeros_0f7a4 1 [zI w] n h (zI (tz w)) := by
  obtain ⟨e1, e2⟩ := tz_low w hw h0
  have go : ∀ (k : Nat), k < 14 → xT xmJ6_numberOfTrailingZeros_0f7a4 (1, 0, 0, 0, 0) 8 [some (.int (nI (2 ^ k - 1))), none] [] n h (fun r n' h' => r = some (zI k) ∧ n' = n ∧ h' = h) := by
    intro k hk
    match k, hk with
    | 0, _ =>
      refine tt_op rfl rfl ?_
      refine tt_if rfl (fun c => absurd (show (0 : Int32) < nI 0 from c) (by decide)) (fun c => ?_)
      refine tt_op rfl rfl ?_
      refine tt_op rfl rfl ?_
      refine tt_op rfl rfl ?_
      refine tt_ireturn rfl rfl (by rfl) (Nat.le_of_ble_eq_true rfl) (Nat.le_of_ble_eq_true rfl) ⟨congrArg some (congrArg Value.int (by decide)), rfl, rfl⟩
    | 1, _ =>
      refine tt_op rfl rfl ?_
      refine tt_if rfl (fun c => ?_) (fun c => absurd (show (0 : Int32) < nI 1 by decide) c)
      refine tt_op rfl rfl ?_
      refine tt_op rfl rfl ?_
      refine tt_op rfl rfl ?_
      refine tt_op rfl rfl ?_
      refine tt_icmp rfl (fun c => ?_) (fun c => absurd (show nI 1 ≤ Int32.ofInt 65536 by decide) c)
      refine tt_op rfl rfl ?_
      refine tt_op rfl rfl ?_
      refine tt_icmp rfl (fun c => ?_) (fun c => absurd (show nI 1 ≤ Int32.ofInt 256 by decide) c)
      refine tt_op rfl rfl ?_
      refine tt_op rfl rfl ?_
      refine tt_icmp rfl (fun c => ?_) (fun c => absurd (show nI 1 ≤ Int32.ofInt 16 by decide) c)
      refine tt_op rfl rfl ?_
      refine tt_op rfl rfl ?_
      refine tt_icmp rfl (fun c => ?_) (fun c => absurd (show nI 1 ≤ Int32.ofInt 4 by decide) c)
      refine tt_op rfl rfl ?_
      refine tt_op rfl rfl ?_
      refine tt_op rfl rfl ?_
      refine tt_op rfl rfl ?_
      refine tt_op rfl rfl ?_
      refine tt_ireturn rfl rfl (by rfl) (Nat.le_of_ble_eq_true rfl) (Nat.le_of_ble_eq_true rfl) ⟨congrArg some (congrArg Value.int (by decide)), rfl, rfl⟩
    | 2, _ =>
      refine tt_op rfl rfl ?_
      refine tt_if rfl (fun c => ?_) (fun c => absurd (show (0 : Int32) < nI 3 by decide) c)
      refine tt_op rfl rfl ?_
      refine tt_op rfl rfl ?_
      refine tt_op rfl rfl ?_
      refine tt_op rfl rfl ?_
      refine tt_icmp rfl (fun c => ?_) (fun c => absurd (show nI 3 ≤ Int32.ofInt 65536 by decide) c)
      refine tt_op rfl rfl ?_
      refine tt_op rfl rfl ?_
      refine tt_icmp rfl (fun c => ?_) (fun c => absurd (show nI 3 ≤ Int32.ofInt 256 by decide) c)
      refine tt_op rfl rfl ?_
      refine tt_op rfl rfl ?_
      refine tt_icmp rfl (fun c => ?_) (fun c => absurd (show nI 3 ≤ Int32.ofInt 16 by decide) c)
      refine tt_op rfl rfl ?_
      refine tt_op rfl rfl ?_
      refine tt_icmp rfl (fun c => ?_) (fun c => absurd (show nI 3 ≤ Int32.ofInt 4 by decide) c)
      refine tt_op rfl rfl ?_
      refine tt_op rfl rfl ?_
      refine tt_op rfl rfl ?_
      refine tt_op rfl rfl ?_
      refine tt_op rfl rfl ?_
      refine tt_ireturn rfl rfl (by rfl) (Nat.le_of_ble_eq_true rfl) (Nat.le_of_ble_eq_true rfl) ⟨congrArg some (congrArg Value.int (by decide)), rfl, rfl⟩
    | 3, _ =>
      refine tt_op rfl rfl ?_
      refine tt_if rfl (fun c => ?_) (fun c => absurd (show (0 : Int32) < nI 7 by decide) c)
      refine tt_op rfl rfl ?_
      refine tt_op rfl rfl ?_
      refine tt_op rfl rfl ?_
      refine tt_op rfl rfl ?_
      refine tt_icmp rfl (fun c => ?_) (fun c => absurd (show nI 7 ≤ Int32.ofInt 65536 by decide) c)
      refine tt_op rfl rfl ?_
      refine tt_op rfl rfl ?_
      refine tt_icmp rfl (fun c => ?_) (fun c => absurd (show nI 7 ≤ Int32.ofInt 256 by decide) c)
      refine tt_op rfl rfl ?_
      refine tt_op rfl rfl ?_
      refine tt_icmp rfl (fun c => ?_) (fun c => absurd (show nI 7 ≤ Int32.ofInt 16 by decide) c)
      refine tt_op rfl rfl ?_
      refine tt_op rfl rfl ?_
      refine tt_icmp rfl (fun c => absurd (show nI 7 ≤ Int32.ofInt 4 from c) (by decide)) (fun c => ?_)
      refine tt_op rfl rfl ?_
      refine tt_op rfl rfl ?_
      refine tt_op rfl rfl ?_
      refine tt_op rfl rfl ?_
      refine tt_op rfl rfl ?_
      refine tt_op rfl rfl ?_
      refine tt_op rfl rfl ?_
      refine tt_op rfl rfl ?_
      refine tt_op rfl rfl ?_
      refine tt_op rfl rfl ?_
      refine tt_ireturn rfl rfl (by rfl) (Nat.le_of_ble_eq_true rfl) (Nat.le_of_ble_eq_true rfl) ⟨congrArg some (congrArg Value.int (by decide)), rfl, rfl⟩
    | 4, _ =>
      refine tt_op rfl rfl ?_
      refine tt_if rfl (fun c => ?_) (fun c => absurd (show (0 : Int32) < nI 15 by decide) c)
      refine tt_op rfl rfl ?_
      refine tt_op rfl rfl ?_
      refine tt_op rfl rfl ?_
      refine tt_op rfl rfl ?_
      refine tt_icmp rfl (fun c => ?_) (fun c => absurd (show nI 15 ≤ Int32.ofInt 65536 by decide) c)
      refine tt_op rfl rfl ?_
      refine tt_op rfl rfl ?_
      refine tt_icmp rfl (fun c => ?_) (fun c => absurd (show nI 15 ≤ Int32.ofInt 256 by decide) c)
      refine tt_op rfl rfl ?_
      refine tt_op rfl rfl ?_
      refine tt_icmp rfl (fun c => ?_) (fun c => absurd (show nI 15 ≤ Int32.ofInt 16 by decide) c)
      refine tt_op rfl rfl ?_
      refine tt_op rfl rfl ?_
      refine tt_icmp rfl (fun c => absurd (show nI 15 ≤ Int32.ofInt 4 from c) (by decide)) (fun c => ?_)
      refine tt_op rfl rfl ?_
      refine tt_op rfl rfl ?_
      refine tt_op rfl rfl ?_
      refine tt_op rfl rfl ?_
      refine tt_op rfl rfl ?_
      refine tt_op rfl rfl ?_
      refine tt_op rfl rfl ?_
      refine tt_op rfl rfl ?_
      refine tt_op rfl rfl ?_
      refine tt_op rfl rfl ?_
      refine tt_ireturn rfl rfl (by rfl) (Nat.le_of_ble_eq_true rfl) (Nat.le_of_ble_eq_true rfl) ⟨congrArg some (congrArg Value.int (by decide)), rfl, rfl⟩
    | 5, _ =>
      refine tt_op rfl rfl ?_
      refine tt_if rfl (fun c => ?_) (fun c => absurd (show (0 : Int32) < nI 31 by decide) c)
      refine tt_op rfl rfl ?_
      refine tt_op rfl rfl ?_
      refine tt_op rfl rfl ?_
      refine tt_op rfl rfl ?_
      refine tt_icmp rfl (fun c => ?_) (fun c => absurd (show nI 31 ≤ Int32.ofInt 65536 by decide) c)
      refine tt_op rfl rfl ?_
      refine tt_op rfl rfl ?_
      refine tt_icmp rfl (fun c => ?_) (fun c => absurd (show nI 31 ≤ Int32.ofInt 256 by decide) c)
      refine tt_op rfl rfl ?_
      refine tt_op rfl rfl ?_
      refine tt_icmp rfl (fun c => absurd (show nI 31 ≤ Int32.ofInt 16 from c) (by decide)) (fun c => ?_)
      refine tt_op rfl rfl ?_
      refine tt_op rfl rfl ?_
      refine tt_op rfl rfl ?_
      refine tt_op rfl rfl ?_
      refine tt_op rfl rfl ?_
      refine tt_op rfl rfl ?_
      refine tt_op rfl rfl ?_
      refine tt_icmp rfl (fun c => ?_) (fun c => absurd (show ((nI 31).toUInt32 >>> ((Int32.ofInt 4).toUInt32 &&& Int32.toUInt32 31)).toInt32 ≤ Int32.ofInt 4 by decide) c)
      refine tt_op rfl rfl ?_
      refine tt_op rfl rfl ?_
      refine tt_op rfl rfl ?_
      refine tt_op rfl rfl ?_
      refine tt_op rfl rfl ?_
      refine tt_ireturn rfl rfl (by rfl) (Nat.le_of_ble_eq_true rfl) (Nat.le_of_ble_eq_true rfl) ⟨congrArg some (congrArg Value.int (by decide)), rfl, rfl⟩
    | 6, _ =>
      refine tt_op rfl rfl ?_
      refine tt_if rfl (fun c => ?_) (fun c => absurd (show (0 : Int32) < nI 63 by decide) c)
      refine tt_op rfl rfl ?_
      refine tt_op rfl rfl ?_
      refine tt_op rfl rfl ?_
      refine tt_op rfl rfl ?_
      refine tt_icmp rfl (fun c => ?_) (fun c => absurd (show nI 63 ≤ Int32.ofInt 65536 by decide) c)
      refine tt_op rfl rfl ?_
      refine tt_op rfl rfl ?_
      refine tt_icmp rfl (fun c => ?_) (fun c => absurd (show nI 63 ≤ Int32.ofInt 256 by decide) c)
      refine tt_op rfl rfl ?_
      refine tt_op rfl rfl ?_
      refine tt_icmp rfl (fun c => absurd (show nI 63 ≤ Int32.ofInt 16 from c) (by decide)) (fun c => ?_)
      refine tt_op rfl rfl ?_
      refine tt_op rfl rfl ?_
      refine tt_op rfl rfl ?_
      refine tt_op rfl rfl ?_
      refine tt_op rfl rfl ?_
      refine tt_op rfl rfl ?_
      refine tt_op rfl rfl ?_
      refine tt_icmp rfl (fun c => ?_) (fun c => absurd (show ((nI 63).toUInt32 >>> ((Int32.ofInt 4).toUInt32 &&& Int32.toUInt32 31)).toInt32 ≤ Int32.ofInt 4 by decide) c)
      refine tt_op rfl rfl ?_
      refine tt_op rfl rfl ?_
      refine tt_op rfl rfl ?_
      refine tt_op rfl rfl ?_
      refine tt_op rfl rfl ?_
      refine tt_ireturn rfl rfl (by rfl) (Nat.le_of_ble_eq_true rfl) (Nat.le_of_ble_eq_true rfl) ⟨congrArg some (congrArg Value.int (by decide)), rfl, rfl⟩
    | 7, _ =>
      refine tt_op rfl rfl ?_
      refine tt_if rfl (fun c => ?_) (fun c => absurd (show (0 : Int32) < nI 127 by decide) c)
      refine tt_op rfl rfl ?_
      refine tt_op rfl rfl ?_
      refine tt_op rfl rfl ?_
      refine tt_op rfl rfl ?_
      refine tt_icmp rfl (fun c => ?_) (fun c => absurd (show nI 127 ≤ Int32.ofInt 65536 by decide) c)
      refine tt_op rfl rfl ?_
      refine tt_op rfl rfl ?_
      refine tt_icmp rfl (fun c => ?_) (fun c => absurd (show nI 127 ≤ Int32.ofInt 256 by decide) c)
      refine tt_op rfl rfl ?_
      refine tt_op rfl rfl ?_
      refine tt_icmp rfl (fun c => absurd (show nI 127 ≤ Int32.ofInt 16 from c) (by decide)) (fun c => ?_)
      refine tt_op rfl rfl ?_
      refine tt_op rfl rfl ?_
      refine tt_op rfl rfl ?_
      refine tt_op rfl rfl ?_
      refine tt_op rfl rfl ?_
      refine tt_op rfl rfl ?_
      refine tt_op rfl rfl ?_
      refine tt_icmp rfl (fun c => absurd (show ((nI 127).toUInt32 >>> ((Int32.ofInt 4).toUInt32 &&& Int32.toUInt32 31)).toInt32 ≤ Int32.ofInt 4 from c) (by decide)) (fun c => ?_)
      refine tt_op rfl rfl ?_
      refine tt_op rfl rfl ?_
      refine tt_op rfl rfl ?_
      refine tt_op rfl rfl ?_
      refine tt_op rfl rfl ?_
      refine tt_op rfl rfl ?_
      refine tt_op rfl rfl ?_
      refine tt_op rfl rfl ?_
      refine tt_op rfl rfl ?_
      refine tt_op rfl rfl ?_
      refine tt_ireturn rfl rfl (by rfl) (Nat.le_of_ble_eq_true rfl) (Nat.le_of_ble_eq_true rfl) ⟨congrArg some (congrArg Value.int (by decide)), rfl, rfl⟩
    | 8, _ =>
      refine tt_op rfl rfl ?_
      refine tt_if rfl (fun c => ?_) (fun c => absurd (show (0 : Int32) < nI 255 by decide) c)
      refine tt_op rfl rfl ?_
      refine tt_op rfl rfl ?_
      refine tt_op rfl rfl ?_
      refine tt_op rfl rfl ?_
      refine tt_icmp rfl (fun c => ?_) (fun c => absurd (show nI 255 ≤ Int32.ofInt 65536 by decide) c)
      refine tt_op rfl rfl ?_
      refine tt_op rfl rfl ?_
      refine tt_icmp rfl (fun c => ?_) (fun c => absurd (show nI 255 ≤ Int32.ofInt 256 by decide) c)
      refine tt_op rfl rfl ?_
      refine tt_op rfl rfl ?_
      refine tt_icmp rfl (fun c => absurd (show nI 255 ≤ Int32.ofInt 16 from c) (by decide)) (fun c => ?_)
      refine tt_op rfl rfl ?_
      refine tt_op rfl rfl ?_
      refine tt_op rfl rfl ?_
      refine tt_op rfl rfl ?_
      refine tt_op rfl rfl ?_
      refine tt_op rfl rfl ?_
      refine tt_op rfl rfl ?_
      refine tt_icmp rfl (fun c => absurd (show ((nI 255).toUInt32 >>> ((Int32.ofInt 4).toUInt32 &&& Int32.toUInt32 31)).toInt32 ≤ Int32.ofInt 4 from c) (by decide)) (fun c => ?_)
      refine tt_op rfl rfl ?_
      refine tt_op rfl rfl ?_
      refine tt_op rfl rfl ?_
      refine tt_op rfl rfl ?_
      refine tt_op rfl rfl ?_
      refine tt_op rfl rfl ?_
      refine tt_op rfl rfl ?_
      refine tt_op rfl rfl ?_
      refine tt_op rfl rfl ?_
      refine tt_op rfl rfl ?_
      refine tt_ireturn rfl rfl (by rfl) (Nat.le_of_ble_eq_true rfl) (Nat.le_of_ble_eq_true rfl) ⟨congrArg some (congrArg Value.int (by decide)), rfl, rfl⟩
    | 9, _ =>
      refine tt_op rfl rfl ?_
      refine tt_if rfl (fun c => ?_) (fun c => absurd (show (0 : Int32) < nI 511 by decide) c)
      refine tt_op rfl rfl ?_
      refine tt_op rfl rfl ?_
      refine tt_op rfl rfl ?_
      refine tt_op rfl rfl ?_
      refine tt_icmp rfl (fun c => ?_) (fun c => absurd (show nI 511 ≤ Int32.ofInt 65536 by decide) c)
      refine tt_op rfl rfl ?_
      refine tt_op rfl rfl ?_
      refine tt_icmp rfl (fun c => absurd (show nI 511 ≤ Int32.ofInt 256 from c) (by decide)) (fun c => ?_)
      refine tt_op rfl rfl ?_
      refine tt_op rfl rfl ?_
      refine tt_op rfl rfl ?_
      refine tt_op rfl rfl ?_
      refine tt_op rfl rfl ?_
      refine tt_op rfl rfl ?_
      refine tt_op rfl rfl ?_
      refine tt_icmp rfl (fun c => ?_) (fun c => absurd (show ((nI 511).toUInt32 >>> ((Int32.ofInt 8).toUInt32 &&& Int32.toUInt32 31)).toInt32 ≤ Int32.ofInt 16 by decide) c)
      refine tt_op rfl rfl ?_
      refine tt_op rfl rfl ?_
      refine tt_icmp rfl (fun c => ?_) (fun c => absurd (show ((nI 511).toUInt32 >>> ((Int32.ofInt 8).toUInt32 &&& Int32.toUInt32 31)).toInt32 ≤ Int32.ofInt 4 by decide) c)
      refine tt_op rfl rfl ?_
      refine tt_op rfl rfl ?_
      refine tt_op rfl rfl ?_
      refine tt_op rfl rfl ?_
      refine tt_op rfl rfl ?_
      refine tt_ireturn rfl rfl (by rfl) (Nat.le_of_ble_eq_true rfl) (Nat.le_of_ble_eq_true rfl) ⟨congrArg some (congrArg Value.int (by decide)), rfl, rfl⟩
    | 10, _ =>
      refine tt_op rfl rfl ?_
      refine tt_if rfl (fun c => ?_) (fun c => absurd (show (0 : Int32) < nI 1023 by decide) c)
      refine tt_op rfl rfl ?_
      refine tt_op rfl rfl ?_
      refine tt_op rfl rfl ?_
      refine tt_op rfl rfl ?_
      refine tt_icmp rfl (fun c => ?_) (fun c => absurd (show nI 1023 ≤ Int32.ofInt 65536 by decide) c)
      refine tt_op rfl rfl ?_
      refine tt_op rfl rfl ?_
      refine tt_icmp rfl (fun c => absurd (show nI 1023 ≤ Int32.ofInt 256 from c) (by decide)) (fun c => ?_)
      refine tt_op rfl rfl ?_
      refine tt_op rfl rfl ?_
      refine tt_op rfl rfl ?_
      refine tt_op rfl rfl ?_
      refine tt_op rfl rfl ?_
      refine tt_op rfl rfl ?_
      refine tt_op rfl rfl ?_
      refine tt_icmp rfl (fun c => ?_) (fun c => absurd (show ((nI 1023).toUInt32 >>> ((Int32.ofInt 8).toUInt32 &&& Int32.toUInt32 31)).toInt32 ≤ Int32.ofInt 16 by decide) c)
      refine tt_op rfl rfl ?_
      refine tt_op rfl rfl ?_
      refine tt_icmp rfl (fun c => ?_) (fun c => absurd (show ((nI 1023).toUInt32 >>> ((Int32.ofInt 8).toUInt32 &&& Int32.toUInt32 31)).toInt32 ≤ Int32.ofInt 4 by decide) c)
      refine tt_op rfl rfl ?_
      refine tt_op rfl rfl ?_
      refine tt_op rfl rfl ?_
      refine tt_op rfl rfl ?_
      refine tt_op rfl rfl ?_
      refine tt_ireturn rfl rfl (by rfl) (Nat.le_of_ble_eq_true rfl) (Nat.le_of_ble_eq_true rfl) ⟨congrArg some (congrArg Value.int (by decide)), rfl, rfl⟩
    | 11, _ =>
      refine tt_op rfl rfl ?_
      refine tt_if rfl (fun c => ?_) (fun c => absurd (show (0 : Int32) < nI 2047 by decide) c)
      refine tt_op rfl rfl ?_
      refine tt_op rfl rfl ?_
      refine tt_op rfl rfl ?_
      refine tt_op rfl rfl ?_
      refine tt_icmp rfl (fun c => ?_) (fun c => absurd (show nI 2047 ≤ Int32.ofInt 65536 by decide) c)
      refine tt_op rfl rfl ?_
      refine tt_op rfl rfl ?_
      refine tt_icmp rfl (fun c => absurd (show nI 2047 ≤ Int32.ofInt 256 from c) (by decide)) (fun c => ?_)
      refine tt_op rfl rfl ?_
      refine tt_op rfl rfl ?_
      refine tt_op rfl rfl ?_
      refine tt_op rfl rfl ?_
      refine tt_op rfl rfl ?_
      refine tt_op rfl rfl ?_
      refine tt_op rfl rfl ?_
      refine tt_icmp rfl (fun c => ?_) (fun c => absurd (show ((nI 2047).toUInt32 >>> ((Int32.ofInt 8).toUInt32 &&& Int32.toUInt32 31)).toInt32 ≤ Int32.ofInt 16 by decide) c)
      refine tt_op rfl rfl ?_
      refine tt_op rfl rfl ?_
      refine tt_icmp rfl (fun c => absurd (show ((nI 2047).toUInt32 >>> ((Int32.ofInt 8).toUInt32 &&& Int32.toUInt32 31)).toInt32 ≤ Int32.ofInt 4 from c) (by decide)) (fun c => ?_)
      refine tt_op rfl rfl ?_
      refine tt_op rfl rfl ?_
      refine tt_op rfl rfl ?_
      refine tt_op rfl rfl ?_
      refine tt_op rfl rfl ?_
      refine tt_op rfl rfl ?_
      refine tt_op rfl rfl ?_
      refine tt_op rfl rfl ?_
      refine tt_op rfl rfl ?_
      refine tt_op rfl rfl ?_
      refine tt_ireturn rfl rfl (by rfl) (Nat.le_of_ble_eq_true rfl) (Nat.le_of_ble_eq_true rfl) ⟨congrArg some (congrArg Value.int (by decide)), rfl, rfl⟩
    | 12, _ =>
      refine tt_op rfl rfl ?_
      refine tt_if rfl (fun c => ?_) (fun c => absurd (show (0 : Int32) < nI 4095 by decide) c)
      refine tt_op rfl rfl ?_
      refine tt_op rfl rfl ?_
      refine tt_op rfl rfl ?_
      refine tt_op rfl rfl ?_
      refine tt_icmp rfl (fun c => ?_) (fun c => absurd (show nI 4095 ≤ Int32.ofInt 65536 by decide) c)
      refine tt_op rfl rfl ?_
      refine tt_op rfl rfl ?_
      refine tt_icmp rfl (fun c => absurd (show nI 4095 ≤ Int32.ofInt 256 from c) (by decide)) (fun c => ?_)
      refine tt_op rfl rfl ?_
      refine tt_op rfl rfl ?_
      refine tt_op rfl rfl ?_
      refine tt_op rfl rfl ?_
      refine tt_op rfl rfl ?_
      refine tt_op rfl rfl ?_
      refine tt_op rfl rfl ?_
      refine tt_icmp rfl (fun c => ?_) (fun c => absurd (show ((nI 4095).toUInt32 >>> ((Int32.ofInt 8).toUInt32 &&& Int32.toUInt32 31)).toInt32 ≤ Int32.ofInt 16 by decide) c)
      refine tt_op rfl rfl ?_
      refine tt_op rfl rfl ?_
      refine tt_icmp rfl (fun c => absurd (show ((nI 4095).toUInt32 >>> ((Int32.ofInt 8).toUInt32 &&& Int32.toUInt32 31)).toInt32 ≤ Int32.ofInt 4 from c) (by decide)) (fun c => ?_)
      refine tt_op rfl rfl ?_
      refine tt_op rfl rfl ?_
      refine tt_op rfl rfl ?_
      refine tt_op rfl rfl ?_
      refine tt_op rfl rfl ?_
      refine tt_op rfl rfl ?_
      refine tt_op rfl rfl ?_
      refine tt_op rfl rfl ?_
      refine tt_op rfl rfl ?_
      refine tt_op rfl rfl ?_
      refine tt_ireturn rfl rfl (by rfl) (Nat.le_of_ble_eq_true rfl) (Nat.le_of_ble_eq_true rfl) ⟨congrArg some (congrArg Value.int (by decide)), rfl, rfl⟩
    | 13, _ =>
      refine tt_op rfl rfl ?_
      refine tt_if rfl (fun c => ?_) (fun c => absurd (show (0 : Int32) < nI 8191 by decide) c)
      refine tt_op rfl rfl ?_
      refine tt_op rfl rfl ?_
      refine tt_op rfl rfl ?_
      refine tt_op rfl rfl ?_
      refine tt_icmp rfl (fun c => ?_) (fun c => absurd (show nI 8191 ≤ Int32.ofInt 65536 by decide) c)
      refine tt_op rfl rfl ?_
      refine tt_op rfl rfl ?_
      refine tt_icmp rfl (fun c => absurd (show nI 8191 ≤ Int32.ofInt 256 from c) (by decide)) (fun c => ?_)
      refine tt_op rfl rfl ?_
      refine tt_op rfl rfl ?_
      refine tt_op rfl rfl ?_
      refine tt_op rfl rfl ?_
      refine tt_op rfl rfl ?_
      refine tt_op rfl rfl ?_
      refine tt_op rfl rfl ?_
      refine tt_icmp rfl (fun c => absurd (show ((nI 8191).toUInt32 >>> ((Int32.ofInt 8).toUInt32 &&& Int32.toUInt32 31)).toInt32 ≤ Int32.ofInt 16 from c) (by decide)) (fun c => ?_)
      refine tt_op rfl rfl ?_
      refine tt_op rfl rfl ?_
      refine tt_op rfl rfl ?_
      refine tt_op rfl rfl ?_
      refine tt_op rfl rfl ?_
      refine tt_op rfl rfl ?_
      refine tt_op rfl rfl ?_
      refine tt_icmp rfl (fun c => ?_) (fun c => absurd (show ((((nI 8191).toUInt32 >>> ((Int32.ofInt 8).toUInt32 &&& Int32.toUInt32 31)).toInt32).toUInt32 >>> ((Int32.ofInt 4).toUInt32 &&& Int32.toUInt32 31)).toInt32 ≤ Int32.ofInt 4 by decide) c)
      refine tt_op rfl rfl ?_
      refine tt_op rfl rfl ?_
      refine tt_op rfl rfl ?_
      refine tt_op rfl rfl ?_
      refine tt_op rfl rfl ?_
      refine tt_ireturn rfl rfl (by rfl) (Nat.le_of_ble_eq_true rfl) (Nat.le_of_ble_eq_true rfl) ⟨congrArg some (congrArg Value.int (by decide)), rfl, rfl⟩
    | k + 14, hk => exact absurd hk (by omega)
  refine xCall.of xgJ6_numberOfTrailingZeros_0f7a4 rfl ?_
  refine tt_op rfl rfl ?_
  refine tt_op rfl rfl ?_
  refine tt_op rfl rfl ?_
  refine tt_op rfl rfl ?_
  refine tt_op rfl rfl ?_
  refine tt_op rfl rfl ?_
  refine tt_op rfl rfl ?_
  refine tt_op rfl rfl ?_
  have := go (tz w) e2
  rw [← e1, z3_nI] at this
  exact this
