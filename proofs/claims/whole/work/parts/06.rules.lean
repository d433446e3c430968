/-! What a method's run at a place says: from every machine state that holds these cells and locals, the method comes to its end with Q -/
def xTy (g : xG) : List (ClassId × FieldType) := [(g.2.1.1, .int), (g.2.1.2.1, .long), (g.2.1.2.2, .object RX3)]
def xNw (U : State) : Prop := (∀ q ∈ xNs, va_Nw (.methodLinkNest q.1 q.2.1 q.2.2 RX5) U) ∧ va_AO RX3 U
def xR (d mc ms : Nat) : Room := { frames := d, cells := mc, slots := ms, locals := 80 * d }
abbrev xQt : Type := Option Value → Nat → xHp → Prop
def xQ (g : xG) (Q : xQt) : Array Value → State → Outcome → State → Prop :=
  fun _ st o t => (∃ (r : Option Value) (n : Nat) (h : xHp), o = .returned (r.map (xr g.2.2)) ∧ Q r n h ∧ xP g n h t.heap) ∧ va_F (xA g) st t
/-- depth, cells and slots of the method; cells and slots that are used -/
abbrev xB : Type := Nat × Nat × Nat × Nat × Nat
def xCx (M : xM) (g : xG) (p : Program) (s : State) (m : MethodId) (args : Array Value) (meth : Method) (c : Code) : Prop :=
  p.tables.exec = Jvm.exec ∧ c.code = M.1.2.2.1 ∧ c.maxLocals = M.1.2.2.2.1 ∧ s.vm.findClass M.1.2.1.cls = some m.cls ∧ (∀ w ∈ xWd, w.before args s = true) ∧ meth.sig.returnType = M.1.2.2.2.2.1 ∧ meth.locks = false ∧ meth.name = M.1.2.1.name ∧ va_K g.1 xcl (xTy g) s ∧ xNw s ∧ xGd M = true ∧ g.2.2 ≤ s.heap.size
def xT (M : xM) (B : xB) (pc : Nat) (l : xL) (st : List Value) (n : Nat) (h : xHp) (Q : xQt) : Prop :=
  ∀ (g : xG) (p : Program) (l0 : Launch) (e : Env) (s : State) (m : MethodId) (args : Array Value) (below : List Frame) (meth : Method) (c : Code) (H : Heap) (locs : List Loc) (ls : Array Slot),
    xCx M g p s m args meth c → xP g n h H → va_S (xA g) s.heap H locs → xLk g.2.2 ls M.1.2.2.2.1 l →
    W p l0 e (xR B.1 B.2.1 B.2.2.1) s m args below meth c H locs B.2.2.2.1 B.2.2.2.2 (MQ below (xQ g Q) args s B.2.1 B.2.2.1 (xA g)) (F0 m pc ls (st.map (xr g.2.2)))
theorem xT.mono {M : xM} {B : xB} {pc : Nat} {l : xL} {st : List Value} {n : Nat} {h : xHp} {Q Q' : xQt} (hT : xT M B pc l st n h Q) (hq : ∀ r n h, Q r n h → Q' r n h) : xT M B pc l st n h Q' := by
  intro g p l0 e s m args below meth c H locs ls C hP hS hL T hT0 X
  obtain ⟨t, a, o, b1, b2, ⟨⟨r, n', h', e1, e2, e3⟩, hF⟩, b4⟩ := hT g p l0 e s m args below meth c H locs ls C hP hS hL T hT0 X
  exact ⟨t, a, o, b1, b2, ⟨⟨r, n', h', e1, hq _ _ _ e2, e3⟩, hF⟩, b4⟩
abbrev xldI (l : xL) (b : Nat) (st : List Value) : Option (xL × List Value) := match xgt l b with
  | some (.int x) => some (l, .int x :: st)
  | _ => none
abbrev xldL (l : xL) (b : Nat) (st : List Value) : Option (xL × List Value) := match xgt l b with
  | some (.long x) => some (l, .long x :: st)
  | _ => none
abbrev xldA (l : xL) (b : Nat) (st : List Value) : Option (xL × List Value) := match xgt l b with
  | some (.ref x) => some (l, .ref x :: st)
  | _ => none
abbrev xstI (l : xL) (b : Nat) (st : List Value) : Option (xL × List Value) := match st with
  | .int x :: r => some (xs1 l b (.int x), r)
  | _ => none
abbrev xstL (l : xL) (b : Nat) (st : List Value) : Option (xL × List Value) := match st with
  | .long x :: r => some (xs2 l b (.long x), r)
  | _ => none
abbrev xstA (l : xL) (b : Nat) (st : List Value) : Option (xL × List Value) := match st with
  | .ref x :: r => some (xs1 l b (.ref x), r)
  | _ => none
def xop (ins : Instr) (a : Int) (b : Nat) (l : xL) (st : List Value) : Option (xL × List Value) :=
  match ins with
  | .iconst _ => some (l, .int (Int32.ofInt a) :: st)
  | .bipush _ => some (l, .int (Int32.ofInt a) :: st)
  | .sipush _ => some (l, .int (Int32.ofInt a) :: st)
  | .ldc _ => some (l, .int (Int32.ofInt a) :: st)
  | .ldc_w _ => some (l, .int (Int32.ofInt a) :: st)
  | .lconst _ => some (l, .long (Int64.ofInt a) :: st)
  | .ldc2_w _ => some (l, .long (Int64.ofInt a) :: st)
  | .iload _ => xldI l b st
  | .iload_n _ => xldI l b st
  | .lload _ => xldL l b st
  | .lload_n _ => xldL l b st
  | .aload _ => xldA l b st
  | .aload_n _ => xldA l b st
  | .istore _ => xstI l b st
  | .istore_n _ => xstI l b st
  | .lstore _ => xstL l b st
  | .lstore_n _ => xstL l b st
  | .astore _ => xstA l b st
  | .astore_n _ => xstA l b st
  | .iinc _ c => (match xgt l b with | some (.int x) => some (xs1 l b (.int (x + Int32.ofInt c)), st) | _ => none)
  | .iadd => (match st with | .int y :: .int x :: r => some (l, .int (x + y) :: r) | _ => none)
  | .isub => (match st with | .int y :: .int x :: r => some (l, .int (x - y) :: r) | _ => none)
  | .imul => (match st with | .int y :: .int x :: r => some (l, .int (x * y) :: r) | _ => none)
  | .iand => (match st with | .int y :: .int x :: r => some (l, .int (x &&& y) :: r) | _ => none)
  | .ior => (match st with | .int y :: .int x :: r => some (l, .int (x ||| y) :: r) | _ => none)
  | .ixor => (match st with | .int y :: .int x :: r => some (l, .int (x ^^^ y) :: r) | _ => none)
  | .ineg => (match st with | .int x :: r => some (l, .int (-x) :: r) | _ => none)
  | .ishl => (match st with | .int y :: .int x :: r => some (l, .int (x <<< (y &&& 31)) :: r) | _ => none)
  | .ishr => (match st with | .int y :: .int x :: r => some (l, .int (x >>> (y &&& 31)) :: r) | _ => none)
  | .iushr => (match st with | .int y :: .int x :: r => some (l, .int (x.toUInt32 >>> (y.toUInt32 &&& Int32.toUInt32 31)).toInt32 :: r) | _ => none)
  | .ladd => (match st with | .long y :: .long x :: r => some (l, .long (x + y) :: r) | _ => none)
  | .lsub => (match st with | .long y :: .long x :: r => some (l, .long (x - y) :: r) | _ => none)
  | .lmul => (match st with | .long y :: .long x :: r => some (l, .long (x * y) :: r) | _ => none)
  | .lneg => (match st with | .long x :: r => some (l, .long (-x) :: r) | _ => none)
  | .i2l => (match st with | .int x :: r => some (l, .long x.toInt64 :: r) | _ => none)
  | .l2i => (match st with | .long x :: r => some (l, .int x.toInt32 :: r) | _ => none)
  | .lcmp => (match st with | .long y :: .long x :: r => some (l, .int (lg_cmp x y) :: r) | _ => none)
  | .dup => (match st with | v :: r => (match xc2 v with | false => some (l, v :: v :: r) | true => none) | _ => none)
  | .dup2 => (match st with | .int y :: .ref x :: r => some (l, .int y :: .ref x :: .int y :: .ref x :: r) | _ => none)
  | _ => none
section XR
variable {M : xM} {B : xB} {pc nx b hh : Nat} {a : Int} {l : xL} {st : List Value} {n : Nat} {h : xHp} {Q : xQt}
theorem xc1 {v : Value} {z : Nat} (h : xc2 v = false) : (xr z v).category = 1 := by
  rw [xr_cat]
  cases v <;> first | rfl | (simp [xc2] at h)
set_option maxHeartbeats 1000000 in
theorem tt_op {ins : Instr} {l' : xL} {st' : List Value} (hf : xfe M pc = some (ins, nx, a, b, hh)) (ho : xop ins a b l st = some (l', st')) (k : xT M B nx l' st' n h Q) : xT M B pc l st n h Q := by
  intro g p l0 e s m args below meth c H locs ls C hP hS hL
  obtain ⟨hx, hb, hml, hown, hts, hr, hlk, hnm, hK, hN, hG, hz⟩ := id C
  obtain ⟨hd, hnx, hsp, hix⟩ := xfe_ok hG hf
  subst hnx
  have kk := k g p l0 e s m args below meth c H locs
  unfold xop at ho
  split at ho
  · cases ho; exact lv_iconst hx hb hd (by rw [show _ = a from of_decide_eq_true hsp]) (kk ls C hP hS hL)
  · cases ho; exact lv_bipush hx hb hd (of_decide_eq_true hsp) (kk ls C hP hS hL)
  · cases ho; exact lv_sipush hx hb hd (of_decide_eq_true hsp) (kk ls C hP hS hL)
  · cases ho; exact lv_ldc hx hb hown (hts _ (xat1_mem hsp)) hd (kk ls C hP hS hL)
  · cases ho; exact lv_ldcw hx hb hown (hts _ (xat1_mem hsp)) hd (kk ls C hP hS hL)
  · cases ho; exact lv_lconst hx hb hd (of_decide_eq_true hsp) (kk ls C hP hS hL)
  · cases ho; exact lv_ldc2 hx hb hown (hts _ (xat1_mem hsp)) hd (kk ls C hP hS hL)
  · unfold xldI at ho
    split at ho
    · rename_i q hq; cases ho; cases (of_decide_eq_true hix : _ = b)
      exact lv_iload hx hb hd (hL.2.2 _ _ hq) (kk ls C hP hS hL)
    · cases ho
  · unfold xldI at ho
    split at ho
    · rename_i q hq; cases ho
      exact lv_iload_n hx hb hd (of_decide_eq_true hix) (hL.2.2 _ _ hq) (kk ls C hP hS hL)
    · cases ho
  · unfold xldL at ho
    split at ho
    · rename_i q hq; cases ho; cases (of_decide_eq_true hix : _ = b)
      exact lv_lload hx hb hd (hL.2.2 _ _ hq) (kk ls C hP hS hL)
    · cases ho
  · unfold xldL at ho
    split at ho
    · rename_i q hq; cases ho
      exact lv_lload_n hx hb hd (of_decide_eq_true hix) (hL.2.2 _ _ hq) (kk ls C hP hS hL)
    · cases ho
  · unfold xldA at ho
    split at ho
    · rename_i q hq; cases ho; cases (of_decide_eq_true hix : _ = b)
      exact lv_aload hx hb hd (hL.2.2 _ _ hq) (kk ls C hP hS hL)
    · cases ho
  · unfold xldA at ho
    split at ho
    · rename_i q hq; cases ho
      exact lv_aload_n hx hb hd (of_decide_eq_true hix) (hL.2.2 _ _ hq) (kk ls C hP hS hL)
    · cases ho
  · unfold xstI at ho
    simp only [xix, Bool.and_eq_true, decide_eq_true_eq] at hix
    obtain ⟨rfl, hlt⟩ := hix
    split at ho
    · cases ho
      exact lv_istore hx hb hd hL.has hlt rfl (fun ls hl => kk ls C hP hS (xLk.s1 rfl hl))
    · cases ho
  · unfold xstI at ho
    simp only [xix, Bool.and_eq_true, decide_eq_true_eq] at hix
    obtain ⟨hi, hlt⟩ := hix
    split at ho
    · cases ho
      exact lv_istore_n hx hb hd hi hL.has hlt rfl (fun ls hl => kk ls C hP hS (xLk.s1 rfl hl))
    · cases ho
  · unfold xstL at ho
    simp only [xix, Bool.and_eq_true, decide_eq_true_eq] at hix
    obtain ⟨rfl, hlt⟩ := hix
    split at ho
    · cases ho
      exact lv_lstore hx hb hd hL.has hlt rfl (fun ls hl => kk ls C hP hS (xLk.s2 rfl hl))
    · cases ho
  · unfold xstL at ho
    simp only [xix, Bool.and_eq_true, decide_eq_true_eq] at hix
    obtain ⟨hi, hlt⟩ := hix
    split at ho
    · cases ho
      exact lv_lstore_n hx hb hd hi hL.has hlt rfl (fun ls hl => kk ls C hP hS (xLk.s2 rfl hl))
    · cases ho
  · unfold xstA at ho
    simp only [xix, Bool.and_eq_true, decide_eq_true_eq] at hix
    obtain ⟨rfl, hlt⟩ := hix
    split at ho
    · cases ho
      exact lv_astore hx hb hd hL.has hlt rfl (fun ls hl => kk ls C hP hS (xLk.s1 rfl hl))
    · cases ho
  · unfold xstA at ho
    simp only [xix, Bool.and_eq_true, decide_eq_true_eq] at hix
    obtain ⟨hi, hlt⟩ := hix
    split at ho
    · cases ho
      exact lv_astore_n hx hb hd hi hL.has hlt rfl (fun ls hl => kk ls C hP hS (xLk.s1 rfl hl))
    · cases ho
  · simp only [xix, Bool.and_eq_true, decide_eq_true_eq] at hix
    obtain ⟨rfl, hlt⟩ := hix
    split at ho
    · rename_i q hq; cases ho
      obtain ⟨k0, hk0⟩ := List.getElem?_of_mem (xpl_mem (z := g.2.2) hq)
      exact lv_iinc hx hb hd hL.has hk0 rfl hlt rfl (fun ls hl => kk ls C hP hS (xLk.s1 rfl hl))
    · cases ho
  · split at ho
    · cases ho; exact lv_iadd hx hb hd (kk ls C hP hS hL)
    · cases ho
  · split at ho
    · cases ho; exact lv_isub hx hb hd (kk ls C hP hS hL)
    · cases ho
  · split at ho
    · cases ho; exact lv_imul hx hb hd (kk ls C hP hS hL)
    · cases ho
  · split at ho
    · cases ho; exact lv_iand hx hb hd (kk ls C hP hS hL)
    · cases ho
  · split at ho
    · cases ho; exact lv_ior hx hb hd (kk ls C hP hS hL)
    · cases ho
  · split at ho
    · cases ho; exact lv_ixor hx hb hd (kk ls C hP hS hL)
    · cases ho
  · split at ho
    · cases ho; exact lv_ineg hx hb hd (kk ls C hP hS hL)
    · cases ho
  · split at ho
    · cases ho; exact lv_ishl hx hb hd (kk ls C hP hS hL)
    · cases ho
  · split at ho
    · cases ho; exact lv_ishr hx hb hd (kk ls C hP hS hL)
    · cases ho
  · split at ho
    · cases ho; exact lv_iushr hx hb hd rfl (kk ls C hP hS hL)
    · cases ho
  · split at ho
    · cases ho; exact lv_ladd hx hb hd (kk ls C hP hS hL)
    · cases ho
  · split at ho
    · cases ho; exact lv_lsub hx hb hd (kk ls C hP hS hL)
    · cases ho
  · split at ho
    · cases ho; exact lv_lmul hx hb hd (kk ls C hP hS hL)
    · cases ho
  · split at ho
    · cases ho; exact lv_lneg hx hb hd (kk ls C hP hS hL)
    · cases ho
  · split at ho
    · cases ho; exact lv_i2l hx hb hd rfl (kk ls C hP hS hL)
    · cases ho
  · split at ho
    · cases ho; exact lv_l2i hx hb hd rfl (kk ls C hP hS hL)
    · cases ho
  · split at ho
    · cases ho; exact W.lcmp hx hb hd (kk ls C hP hS hL)
    · cases ho
  · split at ho
    · split at ho
      · rename_i hv; cases ho; exact lv_dup hx hb hd (xc1 hv) (kk ls C hP hS hL)
      · cases ho
    · cases ho
  · split at ho
    · cases ho; exact lv_dup2_11 hx hb hd rfl rfl (kk ls C hP hS hL)
    · cases ho
  · cases ho
/-- divisions -/
theorem tt_idiv {x y : Int32} (hf : xfe M pc = some (.idiv, nx, a, b, hh)) (hy : ¬ y = 0) (k : xT M B nx l (.int (x / y) :: st) n h Q) : xT M B pc l (.int y :: .int x :: st) n h Q := by
  intro g p l0 e s m args below meth c H locs ls C hP hS hL
  obtain ⟨hx, hb, hml, hown, hts, hr, hlk, hnm, hK, hN, hG, hz⟩ := id C
  obtain ⟨hd, hnx, hsp, hix⟩ := xfe_ok hG hf
  subst hnx
  exact lv_idiv hx hb hd hy (k g p l0 e s m args below meth c H locs ls C hP hS hL)
theorem tt_irem {x y : Int32} (hf : xfe M pc = some (.irem, nx, a, b, hh)) (hy : ¬ y = 0) (k : xT M B nx l (.int (x - x / y * y) :: st) n h Q) : xT M B pc l (.int y :: .int x :: st) n h Q := by
  intro g p l0 e s m args below meth c H locs ls C hP hS hL
  obtain ⟨hx, hb, hml, hown, hts, hr, hlk, hnm, hK, hN, hG, hz⟩ := id C
  obtain ⟨hd, hnx, hsp, hix⟩ := xfe_ok hG hf
  subst hnx
  exact lv_irem hx hb hd hy (k g p l0 e s m args below meth c H locs ls C hP hS hL)
theorem tt_ldiv {x y : Int64} (hf : xfe M pc = some (.ldiv, nx, a, b, hh)) (hy : ¬ y = 0) (k : xT M B nx l (.long (x / y) :: st) n h Q) : xT M B pc l (.long y :: .long x :: st) n h Q := by
  intro g p l0 e s m args below meth c H locs ls C hP hS hL
  obtain ⟨hx, hb, hml, hown, hts, hr, hlk, hnm, hK, hN, hG, hz⟩ := id C
  obtain ⟨hd, hnx, hsp, hix⟩ := xfe_ok hG hf
  subst hnx
  exact lv_ldiv hx hb hd hy (k g p l0 e s m args below meth c H locs ls C hP hS hL)
theorem tt_lrem {x y : Int64} (hf : xfe M pc = some (.lrem, nx, a, b, hh)) (hy : ¬ y = 0) (k : xT M B nx l (.long (x - x / y * y) :: st) n h Q) : xT M B pc l (.long y :: .long x :: st) n h Q := by
  intro g p l0 e s m args below meth c H locs ls C hP hS hL
  obtain ⟨hx, hb, hml, hown, hts, hr, hlk, hnm, hK, hN, hG, hz⟩ := id C
  obtain ⟨hd, hnx, hsp, hix⟩ := xfe_ok hG hf
  subst hnx
  exact lv_lrem hx hb hd hy (k g p l0 e s m args below meth c H locs ls C hP hS hL)
/-- branches -/
theorem tt_goto {off : Int} (hf : xfe M pc = some (.goto off, nx, a, b, hh)) (k : xT M B b l st n h Q) : xT M B pc l st n h Q := by
  intro g p l0 e s m args below meth c H locs ls C hP hS hL
  obtain ⟨hx, hb, hml, hown, hts, hr, hlk, hnm, hK, hN, hG, hz⟩ := id C
  obtain ⟨hd, hnx, hsp, hix⟩ := xfe_ok hG hf
  exact lv_goto hx hb hd (of_decide_eq_true hsp) (k g p l0 e s m args below meth c H locs ls C hP hS hL)
def xcd (c : ClassFile.Cond) (x y : Int32) : Prop := match c with
  | .eq => x = y
  | .ne => ¬ x = y
  | .lt => x < y
  | .ge => y ≤ x
  | .gt => y < x
  | .le => x ≤ y
theorem tt_if {cd : ClassFile.Cond} {off : Int} {x : Int32} (hf : xfe M pc = some (.ifCond cd off, nx, a, b, hh)) (k1 : xcd cd x 0 → xT M B b l st n h Q) (k2 : ¬ xcd cd x 0 → xT M B nx l st n h Q) : xT M B pc l (.int x :: st) n h Q := by
  intro g p l0 e s m args below meth c H locs ls C hP hS hL
  obtain ⟨hx, hb, hml, hown, hts, hr, hlk, hnm, hK, hN, hG, hz⟩ := id C
  obtain ⟨hd, hnx, hsp, hix⟩ := xfe_ok hG hf
  subst hnx
  have kk1 := fun q => k1 q g p l0 e s m args below meth c H locs ls C hP hS hL
  have kk2 := fun q => k2 q g p l0 e s m args below meth c H locs ls C hP hS hL
  have ht := (of_decide_eq_true hsp : (pc : Int) + off = (b : Int))
  cases cd
  · exact lv_if_eq hx hb hd ht kk1 kk2
  · exact lv_if_ne hx hb hd ht kk1 (fun q => kk2 (fun z => z q))
  · exact lv_if_lt hx hb hd ht kk1 kk2
  · exact lv_if_ge hx hb hd ht kk1 kk2
  · exact lv_if_gt hx hb hd ht kk1 kk2
  · exact lv_if_le hx hb hd ht kk1 kk2
theorem tt_icmp {cd : ClassFile.Cond} {off : Int} {x y : Int32} (hf : xfe M pc = some (.if_icmp cd off, nx, a, b, hh)) (k1 : xcd cd x y → xT M B b l st n h Q) (k2 : ¬ xcd cd x y → xT M B nx l st n h Q) : xT M B pc l (.int y :: .int x :: st) n h Q := by
  intro g p l0 e s m args below meth c H locs ls C hP hS hL
  obtain ⟨hx, hb, hml, hown, hts, hr, hlk, hnm, hK, hN, hG, hz⟩ := id C
  obtain ⟨hd, hnx, hsp, hix⟩ := xfe_ok hG hf
  subst hnx
  have kk1 := fun q => k1 q g p l0 e s m args below meth c H locs ls C hP hS hL
  have kk2 := fun q => k2 q g p l0 e s m args below meth c H locs ls C hP hS hL
  have ht := (of_decide_eq_true hsp : (pc : Int) + off = (b : Int))
  cases cd
  · exact lv_icmp_eq hx hb hd ht kk1 kk2
  · exact lv_icmp_ne hx hb hd ht kk1 (fun q => kk2 (fun z => z q))
  · exact lv_icmp_lt hx hb hd ht kk1 kk2
  · exact lv_icmp_ge hx hb hd ht kk1 kk2
  · exact lv_icmp_gt hx hb hd ht kk1 kk2
  · exact lv_icmp_le hx hb hd ht kk1 kk2
theorem tt_swIn {dflt lo hi off : Int} {offs : Array Int} {x : Int32} {tgt : Nat} (hf : xfe M pc = some (.tableswitch dflt lo hi offs, nx, a, b, hh)) (h1 : ¬ x.toInt < lo) (h2 : ¬ hi < x.toInt) (ho : offs[(x.toInt - lo).toNat]? = some off) (ht : (pc : Int) + off = (tgt : Int)) (k : xT M B tgt l st n h Q) : xT M B pc l (.int x :: st) n h Q := by
  intro g p l0 e s m args below meth c H locs ls C hP hS hL
  obtain ⟨hx, hb, hml, hown, hts, hr, hlk, hnm, hK, hN, hG, hz⟩ := id C
  obtain ⟨hd, hnx, hsp, hix⟩ := xfe_ok hG hf
  exact lv_tableIn hx hb hd h1 h2 ho ht (k g p l0 e s m args below meth c H locs ls C hP hS hL)
theorem tt_swOut {dflt lo hi : Int} {offs : Array Int} {x : Int32} {tgt : Nat} (hf : xfe M pc = some (.tableswitch dflt lo hi offs, nx, a, b, hh)) (h1 : x.toInt < lo ∨ hi < x.toInt) (ht : (pc : Int) + dflt = (tgt : Int)) (k : xT M B tgt l st n h Q) : xT M B pc l (.int x :: st) n h Q := by
  intro g p l0 e s m args below meth c H locs ls C hP hS hL
  obtain ⟨hx, hb, hml, hown, hts, hr, hlk, hnm, hK, hN, hG, hz⟩ := id C
  obtain ⟨hd, hnx, hsp, hix⟩ := xfe_ok hG hf
  exact lv_tableOut hx hb hd h1 ht (k g p l0 e s m args below meth c H locs ls C hP hS hL)
/-- returns -/
theorem tt_ireturn {x : Int32} {ty : FieldType} (hf : xfe M pc = some (.ireturn, nx, a, b, hh)) (hty : M.1.2.2.2.2.1 = some ty) (hn : narrow ty (.int x) = .int x) (h1 : B.2.2.2.1 ≤ B.2.1) (h2 : B.2.2.2.2 ≤ B.2.2.1) (hq : Q (some (.int x)) n h) : xT M B pc l [.int x] n h Q := by
  intro g p l0 e s m args below meth c H locs ls C hP hS hL
  obtain ⟨hx, hb, hml, hown, hts, hr, hlk, hnm, hK, hN, hG, hz⟩ := id C
  obtain ⟨hd, hnx, hsp, hix⟩ := xfe_ok hG hf
  refine W.widen h1 h2 ?_
  exact W.zret hx hb (hr.trans hty) hn (fun t ht hW => ⟨⟨some (.int x), n, h, rfl, hq, by rw [ht]; exact hP⟩, hS.F ht⟩) hS.2.2 hd hlk
theorem tt_lreturn {x : Int64} (hf : xfe M pc = some (.lreturn, nx, a, b, hh)) (hty : M.1.2.2.2.2.1 = some .long) (h1 : B.2.2.2.1 ≤ B.2.1) (h2 : B.2.2.2.2 ≤ B.2.2.1) (hq : Q (some (.long x)) n h) : xT M B pc l [.long x] n h Q := by
  intro g p l0 e s m args below meth c H locs ls C hP hS hL
  obtain ⟨hx, hb, hml, hown, hts, hr, hlk, hnm, hK, hN, hG, hz⟩ := id C
  obtain ⟨hd, hnx, hsp, hix⟩ := xfe_ok hG hf
  refine W.widen h1 h2 ?_
  exact W.lret hx hb (hr.trans hty) (fun t ht hW => ⟨⟨some (.long x), n, h, rfl, hq, by rw [ht]; exact hP⟩, hS.F ht⟩) hS.2.2 hd hlk
theorem tt_return (hf : xfe M pc = some (.return_, nx, a, b, hh)) (hty : M.1.2.2.2.2.1 = none) (h1 : B.2.2.2.1 ≤ B.2.1) (h2 : B.2.2.2.2 ≤ B.2.2.1) (hq : Q none n h) : xT M B pc l [] n h Q := by
  intro g p l0 e s m args below meth c H locs ls C hP hS hL
  obtain ⟨hx, hb, hml, hown, hts, hr, hlk, hnm, hK, hN, hG, hz⟩ := id C
  obtain ⟨hd, hnx, hsp, hix⟩ := xfe_ok hG hf
  refine W.widen h1 h2 ?_
  exact W.vret hx hb (hr.trans hty) (fun t ht hW => ⟨⟨none, n, h, rfl, hq, by rw [ht]; exact hP⟩, hS.F ht⟩) hS.2.2 hd hlk
end XR
