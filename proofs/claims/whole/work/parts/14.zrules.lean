/-! Numbers as whole numbers: every int is Int32.ofInt of one, every long Int64.ofInt -/
def R3 (z : Int) : Prop := -2147483648 ≤ z ∧ z ≤ 2147483647
def R6 (z : Int) : Prop := -9223372036854775808 ≤ z ∧ z ≤ 9223372036854775807
theorem R3.t {z : Int} (h : R3 z) : (Int32.ofInt z).toInt = z := Int32.toInt_ofInt_of_le (by have := h.1; omega) (by have := h.2; omega)
theorem R6.t {z : Int} (h : R6 z) : (Int64.ofInt z).toInt = z := Int64.toInt_ofInt_of_le (by have := h.1; omega) (by have := h.2; omega)
theorem R3.of (x : Int32) : R3 x.toInt := ⟨by have := x.le_toInt; omega, by have := x.toInt_lt; omega⟩
theorem R6.of (x : Int64) : R6 x.toInt := ⟨by have := x.le_toInt; omega, by have := x.toInt_lt; omega⟩
theorem z3_of (x : Int32) : Int32.ofInt x.toInt = x := Int32.ofInt_toInt x
theorem z6_of (x : Int64) : Int64.ofInt x.toInt = x := Int64.ofInt_toInt x
theorem z3_eq {a b : Int} (ha : R3 a) (hb : R3 b) : Int32.ofInt a = Int32.ofInt b ↔ a = b := by rw [← Int32.toInt_inj, ha.t, hb.t]
theorem z3_lt {a b : Int} (ha : R3 a) (hb : R3 b) : Int32.ofInt a < Int32.ofInt b ↔ a < b := by rw [Int32.lt_iff_toInt_lt, ha.t, hb.t]
theorem z3_le {a b : Int} (ha : R3 a) (hb : R3 b) : Int32.ofInt a ≤ Int32.ofInt b ↔ a ≤ b := by rw [Int32.le_iff_toInt_le, ha.t, hb.t]
theorem z6_eq {a b : Int} (ha : R6 a) (hb : R6 b) : Int64.ofInt a = Int64.ofInt b ↔ a = b := by rw [← Int64.toInt_inj, ha.t, hb.t]
theorem z6_lt {a b : Int} (ha : R6 a) (hb : R6 b) : Int64.ofInt a < Int64.ofInt b ↔ a < b := by rw [Int64.lt_iff_toInt_lt, ha.t, hb.t]
theorem z6_le {a b : Int} (ha : R6 a) (hb : R6 b) : Int64.ofInt a ≤ Int64.ofInt b ↔ a ≤ b := by rw [Int64.le_iff_toInt_le, ha.t, hb.t]
theorem z3_nI (k : Nat) : nI k = Int32.ofInt (k : Int) := (Int32.ofInt_eq_ofNat (n := k)).symm
theorem z3_clamp {k : Nat} (h : k < 2147483648) : (Int32.ofInt (k : Int)).toNatClampNeg = k := by rw [← z3_nI]; exact nI_clamp h
theorem z3_in {k N : Nat} (h : k < N) (hN : N < 2147483648) : vp_in (Int32.ofInt (k : Int)) N := by rw [← z3_nI]; exact vp_in_nI h hN
theorem z_i2l {z : Int} (h : R3 z) : (Int32.ofInt z).toInt64 = Int64.ofInt z := by
  apply Int64.toInt_inj.mp
  rw [Int32.toInt_toInt64, h.t, R6.t ⟨by have := h.1; omega, by have := h.2; omega⟩]
def zcd (c : ClassFile.Cond) (a b : Int) : Prop := match c with
  | .eq => a = b
  | .ne => a ≠ b
  | .lt => a < b
  | .ge => b ≤ a
  | .gt => b < a
  | .le => a ≤ b
theorem z_xcd {c : ClassFile.Cond} {a b : Int} (ha : R3 a) (hb : R3 b) : xcd c (Int32.ofInt a) (Int32.ofInt b) ↔ zcd c a b := by
  cases c
  · exact z3_eq ha hb
  · exact not_congr (z3_eq ha hb)
  · exact z3_lt ha hb
  · exact z3_le hb ha
  · exact z3_lt hb ha
  · exact z3_le ha hb
theorem z_lcd {c : ClassFile.Cond} {a b : Int} (ha : R6 a) (hb : R6 b) : xcd c (lg_cmp (Int64.ofInt a) (Int64.ofInt b)) 0 ↔ zcd c a b := by
  unfold lg_cmp
  simp only [gt_iff_lt, z6_lt hb ha, z6_eq ha hb]
  rcases Int.lt_trichotomy a b with q | q | q
  · rw [if_neg (by omega), if_neg (by omega)]
    cases c
    · exact ⟨fun h => absurd (show (-1 : Int32) = 0 from h) (by decide), fun h => absurd (show a = b from h) (by omega)⟩
    · exact ⟨fun _ => show a ≠ b by omega, fun _ => (by decide : ¬ (-1 : Int32) = 0)⟩
    · exact ⟨fun _ => q, fun _ => (by decide : (-1 : Int32) < 0)⟩
    · exact ⟨fun h => absurd (show (0 : Int32) ≤ -1 from h) (by decide), fun h => absurd (show b ≤ a from h) (by omega)⟩
    · exact ⟨fun h => absurd (show (0 : Int32) < -1 from h) (by decide), fun h => absurd (show b < a from h) (by omega)⟩
    · exact ⟨fun _ => show a ≤ b by omega, fun _ => (by decide : (-1 : Int32) ≤ 0)⟩
  · rw [if_neg (by omega), if_pos q]
    cases c
    · exact ⟨fun _ => q, fun _ => rfl⟩
    · exact ⟨fun h => absurd rfl h, fun h => absurd q h⟩
    · exact ⟨fun h => absurd (show (0 : Int32) < 0 from h) (by decide), fun h => absurd (show a < b from h) (by omega)⟩
    · exact ⟨fun _ => show b ≤ a by omega, fun _ => (by decide : (0 : Int32) ≤ 0)⟩
    · exact ⟨fun h => absurd (show (0 : Int32) < 0 from h) (by decide), fun h => absurd (show b < a from h) (by omega)⟩
    · exact ⟨fun _ => show a ≤ b by omega, fun _ => (by decide : (0 : Int32) ≤ 0)⟩
  · rw [if_pos q]
    cases c
    · exact ⟨fun h => absurd (show (1 : Int32) = 0 from h) (by decide), fun h => absurd (show a = b from h) (by omega)⟩
    · exact ⟨fun _ => show a ≠ b by omega, fun _ => (by decide : ¬ (1 : Int32) = 0)⟩
    · exact ⟨fun h => absurd (show (1 : Int32) < 0 from h) (by decide), fun h => absurd (show a < b from h) (by omega)⟩
    · exact ⟨fun _ => show b ≤ a by omega, fun _ => (by decide : (0 : Int32) ≤ 1)⟩
    · exact ⟨fun _ => q, fun _ => (by decide : (0 : Int32) < 1)⟩
    · exact ⟨fun h => absurd (show (1 : Int32) ≤ 0 from h) (by decide), fun h => absurd (show a ≤ b from h) (by omega)⟩
abbrev zI (z : Int) : Value := .int (Int32.ofInt z)
abbrev zJ (z : Int) : Value := .long (Int64.ofInt z)
abbrev zA (N : Nat) (F : Nat → Int) : xE := .inl (N, .inl (fun j => Int32.ofInt (F j)))
abbrev zL (N : Nat) (F : Nat → Int) : xE := .inl (N, .inr (.inl (fun j => Int64.ofInt (F j))))
abbrev zR (N : Nat) (f : Nat → Option Nat) : xE := .inl (N, .inr (.inr (.inr (.inr f))))
def zup (F : Nat → Int) (k : Nat) (v : Int) : Nat → Int := fun j => if j = k then v else F j
theorem zup_i (F : Nat → Int) (k : Nat) (v : Int) : upd (fun j => Int32.ofInt (F j)) k (Int32.ofInt v) = fun j => Int32.ofInt (zup F k v j) := by
  funext j
  by_cases hj : j = k
  · simp [upd, zup, hj]
  · simp [upd, zup, hj]
theorem zup_l (F : Nat → Int) (k : Nat) (v : Int) : vp_updL (fun j => Int64.ofInt (F j)) k (Int64.ofInt v) = fun j => Int64.ofInt (zup F k v j) := by
  funext j
  by_cases hj : j = k
  · simp [vp_updL, zup, hj]
  · simp [vp_updL, zup, hj]
section XZ
variable {M : xM} {B : xB} {pc nx b hh i p1 b1 hh1 : Nat} {a a1 : Int} {l : xL} {st : List Value} {n : Nat} {h : xHp} {Q : xQt} {x y z : Int}
theorem z_iadd (hf : xfe M pc = some (.iadd, nx, a, b, hh)) (k : xT M B nx l (zI (x + y) :: st) n h Q) : xT M B pc l (zI y :: zI x :: st) n h Q := tt_op hf rfl (by rw [← Int32.ofInt_add]; exact k)
theorem z_isub (hf : xfe M pc = some (.isub, nx, a, b, hh)) (k : xT M B nx l (zI (x - y) :: st) n h Q) : xT M B pc l (zI y :: zI x :: st) n h Q := tt_op hf rfl (by rw [← Int32.ofInt_sub]; exact k)
theorem z_imul (hf : xfe M pc = some (.imul, nx, a, b, hh)) (k : xT M B nx l (zI (x * y) :: st) n h Q) : xT M B pc l (zI y :: zI x :: st) n h Q := tt_op hf rfl (by rw [← Int32.ofInt_mul]; exact k)
theorem z_ineg (hf : xfe M pc = some (.ineg, nx, a, b, hh)) (k : xT M B nx l (zI (-x) :: st) n h Q) : xT M B pc l (zI x :: st) n h Q := tt_op hf rfl (by rw [← Int32.ofInt_neg]; exact k)
theorem z_ladd (hf : xfe M pc = some (.ladd, nx, a, b, hh)) (k : xT M B nx l (zJ (x + y) :: st) n h Q) : xT M B pc l (zJ y :: zJ x :: st) n h Q := tt_op hf rfl (by rw [← Int64.ofInt_add]; exact k)
theorem z_lsub (hf : xfe M pc = some (.lsub, nx, a, b, hh)) (k : xT M B nx l (zJ (x - y) :: st) n h Q) : xT M B pc l (zJ y :: zJ x :: st) n h Q := tt_op hf rfl (by rw [← Int64.ofInt_sub]; exact k)
theorem z_lmul (hf : xfe M pc = some (.lmul, nx, a, b, hh)) (k : xT M B nx l (zJ (x * y) :: st) n h Q) : xT M B pc l (zJ y :: zJ x :: st) n h Q := tt_op hf rfl (by rw [← Int64.ofInt_mul]; exact k)
theorem z_lneg (hf : xfe M pc = some (.lneg, nx, a, b, hh)) (k : xT M B nx l (zJ (-x) :: st) n h Q) : xT M B pc l (zJ x :: st) n h Q := tt_op hf rfl (by rw [← Int64.ofInt_neg]; exact k)
theorem z_il (hf : xfe M pc = some (.i2l, nx, a, b, hh)) (hx : R3 x) (k : xT M B nx l (zJ x :: st) n h Q) : xT M B pc l (zI x :: st) n h Q := tt_op hf rfl (by rw [z_i2l hx]; exact k)
theorem z_iinc {l' : xL} {j : Nat} {c : Int} (hf : xfe M pc = some (.iinc j c, nx, a, b, hh)) (hg : xgt l b = some (zI x)) (hl : xs1 l b (zI (x + c)) = l') (k : xT M B nx l' st n h Q) : xT M B pc l st n h Q := tt_op hf (by simp only [xop, hg]; rw [← Int32.ofInt_add]) (by rw [hl]; exact k)
theorem z_if {cd : ClassFile.Cond} {off : Int} (hf : xfe M pc = some (.ifCond cd off, nx, a, b, hh)) (hx : R3 x) (k1 : zcd cd x 0 → xT M B b l st n h Q) (k2 : ¬ zcd cd x 0 → xT M B nx l st n h Q) : xT M B pc l (zI x :: st) n h Q :=
  tt_if hf (fun c => k1 ((z_xcd hx ⟨by decide, by decide⟩).mp c)) (fun c => k2 (fun q => c ((z_xcd hx ⟨by decide, by decide⟩).mpr q)))
theorem z_icmp {cd : ClassFile.Cond} {off : Int} (hf : xfe M pc = some (.if_icmp cd off, nx, a, b, hh)) (hx : R3 x) (hy : R3 y) (k1 : zcd cd x y → xT M B b l st n h Q) (k2 : ¬ zcd cd x y → xT M B nx l st n h Q) : xT M B pc l (zI y :: zI x :: st) n h Q :=
  tt_icmp hf (fun c => k1 ((z_xcd hx hy).mp c)) (fun c => k2 (fun q => c ((z_xcd hx hy).mpr q)))
theorem z_lif {cd : ClassFile.Cond} {off : Int} (hf0 : xfe M pc = some (.lcmp, p1, a1, b1, hh1)) (hf : xfe M p1 = some (.ifCond cd off, nx, a, b, hh)) (hx : R6 x) (hy : R6 y) (k1 : zcd cd x y → xT M B b l st n h Q) (k2 : ¬ zcd cd x y → xT M B nx l st n h Q) : xT M B pc l (zJ y :: zJ x :: st) n h Q :=
  tt_op hf0 rfl (tt_if hf (fun c => k1 ((z_lcd hx hy).mp c)) (fun c => k2 (fun q => c ((z_lcd hx hy).mpr q))))
theorem z_iald {q N j : Nat} {F : Nat → Int} (hf : xfe M pc = some (.iaload, nx, a, b, hh)) (hq : h q = some (zA N F)) (hj : x = (j : Int)) (hi : j < N) (hN : N < 2147483648) (k : xT M B nx l (zI (F j) :: st) n h Q) : xT M B pc l (zI x :: .ref q :: st) n h Q := by
  subst hj
  exact tt_iald hf hq (z3_in hi hN) (by rw [z3_clamp (by omega)]; exact k)
theorem z_lald {q N j : Nat} {F : Nat → Int} (hf : xfe M pc = some (.laload, nx, a, b, hh)) (hq : h q = some (zL N F)) (hj : x = (j : Int)) (hi : j < N) (hN : N < 2147483648) (k : xT M B nx l (zJ (F j) :: st) n h Q) : xT M B pc l (zI x :: .ref q :: st) n h Q := by
  subst hj
  exact tt_lald hf hq (z3_in hi hN) (by rw [z3_clamp (by omega)]; exact k)
theorem z_aald {q N j r : Nat} {f : Nat → Option Nat} (hf : xfe M pc = some (.aaload, nx, a, b, hh)) (hq : h q = some (zR N f)) (hj : x = (j : Int)) (hi : j < N) (hN : N < 2147483648) (hv : f j = some r) (k : xT M B nx l (.ref r :: st) n h Q) : xT M B pc l (zI x :: .ref q :: st) n h Q := by
  subst hj
  exact tt_aald hf hq (z3_in hi hN) (by rw [z3_clamp (by omega)]; exact hv) k
theorem z_iast {q N j : Nat} {F : Nat → Int} (hf : xfe M pc = some (.iastore, nx, a, b, hh)) (hq : h q = some (zA N F)) (hj : x = (j : Int)) (hi : j < N) (hN : N < 2147483648) (k : xT M B nx l st n (xup h q (zA N (zup F j y))) Q) : xT M B pc l (zI y :: zI x :: .ref q :: st) n h Q := by
  subst hj
  exact tt_iast hf hq (z3_in hi hN) (by rw [z3_clamp (by omega), zup_i]; exact k)
theorem z_last {q N j : Nat} {F : Nat → Int} (hf : xfe M pc = some (.lastore, nx, a, b, hh)) (hq : h q = some (zL N F)) (hj : x = (j : Int)) (hi : j < N) (hN : N < 2147483648) (k : xT M B nx l st n (xup h q (zL N (zup F j y))) Q) : xT M B pc l (zJ y :: zI x :: .ref q :: st) n h Q := by
  subst hj
  exact tt_last hf hq (z3_in hi hN) (by rw [z3_clamp (by omega), zup_l]; exact k)
end XZ
/-- the answers of a test -/
abbrev zB (p : Prop) [Decidable p] : Value := zI (if p then 1 else 0)
