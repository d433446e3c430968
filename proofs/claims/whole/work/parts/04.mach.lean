/-! The abstract machine: values and cells by their numbers from the base on; locals by place -/
abbrev xE : Type := vp_A ⊕ (Nat × List Value)
abbrev xL : Type := List (Option Value)
abbrev xG : Type := va_G × (ClassId × ClassId × ClassId) × Nat
abbrev xHp : Type := Nat → Option xE
def xat {α : Type} : List α → Nat → Option α
  | [], _ => none
  | a :: _, 0 => some a
  | _ :: t, k + 1 => xat t k
def xgt : xL → Nat → Option Value
  | [], _ => none
  | a :: _, 0 => a
  | _ :: t, k + 1 => xgt t k
def xc2 : Value → Bool
  | .long _ => true
  | .double _ => true
  | _ => false
def xkeep : Option Value → Option Value
  | some v => (match xc2 v with | true => none | false => some v)
  | none => none
def xs1 : xL → Nat → Value → xL
  | [], _, _ => []
  | _ :: t, 0, v => some v :: t
  | a :: t, 1, v => xkeep a :: xs1 t 0 v
  | a :: t, k + 2, v => a :: xs1 t (k + 1) v
def xcut : xL → xL
  | [] => []
  | _ :: t => none :: t
def xs2 : xL → Nat → Value → xL
  | [], _, _ => []
  | _ :: t, 0, v => some v :: xcut t
  | a :: t, 1, v => xkeep a :: xs2 t 0 v
  | a :: t, k + 2, v => a :: xs2 t (k + 1) v
def xr (z : Nat) : Value → Value
  | .ref a => .ref (z + a)
  | v => v
theorem xr_cat (z : Nat) (v : Value) : (xr z v).category = v.category := by cases v <;> rfl
theorem xc2_cat (v : Value) : xc2 v = true ↔ v.category = 2 := by cases v <;> simp [xc2, Value.category]
theorem xkeep_some {a : Option Value} {w : Value} (h : xkeep a = some w) : a = some w ∧ ¬ w.category = 2 := by
  cases a with
  | none => simp [xkeep] at h
  | some v =>
    simp only [xkeep] at h
    cases hv : xc2 v with
    | true => rw [hv] at h; simp at h
    | false =>
      rw [hv] at h
      simp only [Option.some.injEq] at h
      subst h
      refine ⟨rfl, fun q => ?_⟩
      rw [(xc2_cat v).mpr q] at hv
      cases hv
theorem xs1_spec : ∀ (l : xL) (i : Nat) (v : Value) (j : Nat) (w : Value), xgt (xs1 l i v) j = some w → (j = i ∧ w = v) ∨ (j ≠ i ∧ xgt l j = some w ∧ ¬ (j + 1 = i ∧ w.category = 2))
  | [], i, v, j, w, h => by simp [xs1, xgt] at h
  | a :: t, 0, v, 0, w, h => by
    simp only [xs1, xgt, Option.some.injEq] at h
    exact Or.inl ⟨rfl, h.symm⟩
  | a :: t, 0, v, j + 1, w, h => by
    simp only [xs1, xgt] at h
    exact Or.inr ⟨by omega, by simpa only [xgt] using h, by omega⟩
  | a :: t, 1, v, 0, w, h => by
    simp only [xs1, xgt] at h
    obtain ⟨h1, h2⟩ := xkeep_some h
    exact Or.inr ⟨by omega, by simpa only [xgt] using h1, fun q => h2 q.2⟩
  | a :: t, 1, v, j + 1, w, h => by
    simp only [xs1, xgt] at h
    rcases xs1_spec t 0 v j w h with ⟨e1, e2⟩ | ⟨e1, e2, e3⟩
    · exact Or.inl ⟨by omega, e2⟩
    · exact Or.inr ⟨by omega, by simpa only [xgt] using e2, by omega⟩
  | a :: t, k + 2, v, 0, w, h => by
    simp only [xs1, xgt] at h
    exact Or.inr ⟨by omega, by simpa only [xgt] using h, by omega⟩
  | a :: t, k + 2, v, j + 1, w, h => by
    simp only [xs1, xgt] at h
    rcases xs1_spec t (k + 1) v j w h with ⟨e1, e2⟩ | ⟨e1, e2, e3⟩
    · exact Or.inl ⟨by omega, e2⟩
    · exact Or.inr ⟨by omega, by simpa only [xgt] using e2, fun q => e3 ⟨by omega, q.2⟩⟩
theorem xcut_spec {t : xL} {j : Nat} {w : Value} (h : xgt (xcut t) j = some w) : j ≠ 0 ∧ xgt t j = some w := by
  cases t with
  | nil => simp [xcut, xgt] at h
  | cons a t =>
    cases j with
    | zero => simp [xcut, xgt] at h
    | succ j => exact ⟨by omega, by simpa only [xcut, xgt] using h⟩
theorem xs2_spec : ∀ (l : xL) (i : Nat) (v : Value) (j : Nat) (w : Value), xgt (xs2 l i v) j = some w → (j = i ∧ w = v) ∨ (j ≠ i ∧ j ≠ i + 1 ∧ xgt l j = some w ∧ ¬ (j + 1 = i ∧ w.category = 2))
  | [], i, v, j, w, h => by simp [xs2, xgt] at h
  | a :: t, 0, v, 0, w, h => by
    simp only [xs2, xgt, Option.some.injEq] at h
    exact Or.inl ⟨rfl, h.symm⟩
  | a :: t, 0, v, j + 1, w, h => by
    simp only [xs2, xgt] at h
    obtain ⟨h1, h2⟩ := xcut_spec h
    exact Or.inr ⟨by omega, by omega, by simpa only [xgt] using h2, by omega⟩
  | a :: t, 1, v, 0, w, h => by
    simp only [xs2, xgt] at h
    obtain ⟨h1, h2⟩ := xkeep_some h
    exact Or.inr ⟨by omega, by omega, by simpa only [xgt] using h1, fun q => h2 q.2⟩
  | a :: t, 1, v, j + 1, w, h => by
    simp only [xs2, xgt] at h
    rcases xs2_spec t 0 v j w h with ⟨e1, e2⟩ | ⟨e1, e0, e2, e3⟩
    · exact Or.inl ⟨by omega, e2⟩
    · exact Or.inr ⟨by omega, by omega, by simpa only [xgt] using e2, by omega⟩
  | a :: t, k + 2, v, 0, w, h => by
    simp only [xs2, xgt] at h
    exact Or.inr ⟨by omega, by omega, by simpa only [xgt] using h, by omega⟩
  | a :: t, k + 2, v, j + 1, w, h => by
    simp only [xs2, xgt] at h
    rcases xs2_spec t (k + 1) v j w h with ⟨e1, e2⟩ | ⟨e1, e0, e2, e3⟩
    · exact Or.inl ⟨by omega, e2⟩
    · exact Or.inr ⟨by omega, by omega, by simpa only [xgt] using e2, fun q => e3 ⟨by omega, q.2⟩⟩
theorem xgt_lt : ∀ {l : xL} {i : Nat} {v : Value}, xgt l i = some v → i < l.length
  | [], i, v, h => by simp [xgt] at h
  | a :: t, 0, v, h => by simp
  | a :: t, i + 1, v, h => by
    simp only [xgt] at h
    have := xgt_lt h
    simp; omega
/-- the machine's locals hold what is known -/
def xLk (z : Nat) (ls : Array Slot) (nL : Nat) (l : xL) : Prop := ls.size = nL ∧ lv_wf ls ∧ ∀ i v, xgt l i = some v → ls[i]? = some (.val (xr z v))
def xpl (z : Nat) (l : xL) : List (Nat × Value) := (List.range l.length).filterMap (fun i => (xgt l i).map (fun v => (i, xr z v)))
theorem xpl_mem {z : Nat} {l : xL} {i : Nat} {v : Value} (h : xgt l i = some v) : (i, xr z v) ∈ xpl z l := by
  unfold xpl
  rw [List.mem_filterMap]
  exact ⟨i, List.mem_range.mpr (xgt_lt h), by rw [h]; rfl⟩
theorem xpl_of {z : Nat} {l : xL} {q : Nat × Value} (h : q ∈ xpl z l) : ∃ v, xgt l q.1 = some v ∧ q.2 = xr z v := by
  unfold xpl at h
  rw [List.mem_filterMap] at h
  obtain ⟨i, -, hi⟩ := h
  rw [Option.map_eq_some_iff] at hi
  obtain ⟨v, hv, rfl⟩ := hi
  exact ⟨v, hv, rfl⟩
theorem xLk.has {z : Nat} {ls : Array Slot} {nL : Nat} {l : xL} (h : xLk z ls nL l) : lv_has ls nL (xpl z l) := ⟨h.1, h.2.1, fun q hq => by
  obtain ⟨v, h1, h2⟩ := xpl_of hq
  rw [h2]
  exact h.2.2 _ _ h1⟩
theorem xLk.s1 {z : Nat} {ls : Array Slot} {nL i : Nat} {l : xL} {v w : Value} (hw : w = xr z v) (h : lv_has ls nL ((i, w) :: (xpl z l).filter (fun q => !(q.1 == i) && !(q.1 + 1 == i && q.2.category == 2)))) : xLk z ls nL (xs1 l i v) := by
  refine ⟨h.1, h.2.1, fun j u hj => ?_⟩
  subst hw
  rcases xs1_spec l i v j u hj with ⟨e1, e2⟩ | ⟨e1, e2, e3⟩
  · subst e1; subst e2
    exact h.2.2 (j, xr z u) List.mem_cons_self
  · refine h.2.2 (j, xr z u) (List.mem_cons_of_mem _ (List.mem_filter.mpr ⟨xpl_mem e2, ?_⟩))
    have h1 : (j == i) = false := by simpa using e1
    simp only [h1, Bool.not_false, Bool.true_and, Bool.not_eq_true', Bool.and_eq_false_iff, beq_eq_false_iff_ne, xr_cat]
    rcases Classical.em (j + 1 = i) with q | q
    · exact Or.inr fun r => e3 ⟨q, r⟩
    · exact Or.inl q
theorem xLk.s2 {z : Nat} {ls : Array Slot} {nL i : Nat} {l : xL} {v w : Value} (hw : w = xr z v) (h : lv_has ls nL ((i, w) :: (xpl z l).filter (fun q => !(q.1 == i) && (!(q.1 == i + 1) && !(q.1 + 1 == i && q.2.category == 2))))) : xLk z ls nL (xs2 l i v) := by
  refine ⟨h.1, h.2.1, fun j u hj => ?_⟩
  subst hw
  rcases xs2_spec l i v j u hj with ⟨e1, e2⟩ | ⟨e1, e0, e2, e3⟩
  · subst e1; subst e2
    exact h.2.2 (j, xr z u) List.mem_cons_self
  · refine h.2.2 (j, xr z u) (List.mem_cons_of_mem _ (List.mem_filter.mpr ⟨xpl_mem e2, ?_⟩))
    have h1 : (j == i) = false := by simpa using e1
    have h2 : (j == i + 1) = false := by simpa using e0
    simp only [h1, h2, Bool.not_false, Bool.true_and, Bool.not_eq_true', Bool.and_eq_false_iff, beq_eq_false_iff_ne, xr_cat]
    rcases Classical.em (j + 1 = i) with q | q
    · exact Or.inr fun r => e3 ⟨q, r⟩
    · exact Or.inl q
/-- cells -/
def xcv (g : xG) : xE → va_E
  | .inl (n, .inl f) => .inl (g.2.1.1, n, .inl f)
  | .inl (n, .inr (.inl f)) => .inl (g.2.1.2.1, n, .inr (.inl f))
  | .inl (n, .inr (.inr (.inl f))) => .inl (g.2.1.1, n, .inr (.inr (.inl f)))
  | .inl (n, .inr (.inr (.inr (.inl f)))) => .inl (g.2.1.1, n, .inr (.inr (.inr (.inl f))))
  | .inl (n, .inr (.inr (.inr (.inr f)))) => .inl (g.2.1.2.2, n, .inr (.inr (.inr (.inr (fun i => (f i).map (fun a => g.2.2 + a))))))
  | .inr (ci, fs) => .inr (ci, fs.map (xr g.2.2))
def xco (o : Option xE) : xE := match o with | some e => e | none => .inr (99, [])
def xW (g : xG) (n : Nat) (h : xHp) : va_W := (List.range n).map (fun k => (g.2.2 + k, xcv g (xco (h k))))
def xP (g : xG) (n : Nat) (h : xHp) (H : Heap) : Prop := H.size = g.2.2 + n ∧ (∀ k, n ≤ k → h k = none) ∧ va_P g.1 xcl (xW g n h) H
def xA (g : xG) : Nat → Prop := fun q => g.2.2 ≤ q
def xup (h : xHp) (q : Nat) (e : xE) : xHp := fun j => if j = q then some e else h j
theorem xup_s {h : xHp} {q : Nat} {e : xE} : xup h q e q = some e := by simp [xup]
theorem xup_n {h : xHp} {q j : Nat} {e : xE} (hj : j ≠ q) : xup h q e j = h j := by simp [xup, hj]
theorem xW_get {g : xG} {n : Nat} {h : xHp} {q : Nat} {e : xE} (hq : q < n) (he : h q = some e) : (xW g n h)[q]? = some (g.2.2 + q, xcv g e) := by
  simp [xW, List.getElem?_range, hq, he, xco]
theorem xW_D (g : xG) (n : Nat) (h : xHp) : va_D (xA g) (xW g n h) := by
  have key : ∀ (k : Nat) (q : Nat × va_E), (xW g n h)[k]? = some q → q.1 = g.2.2 + k := by
    intro k q hk
    simp only [xW, List.getElem?_map, Option.map_eq_some_iff] at hk
    obtain ⟨j, hj, rfl⟩ := hk
    rw [List.getElem?_range] at hj
    · simp only [Option.some.injEq] at hj
      rw [hj]
    · have := (List.getElem?_eq_some_iff.mp hj).1
      simpa using this
  refine ⟨fun i j p q hi hj hpq => ?_, fun k q hk => ?_⟩
  · have e1 := key i p hi
    have e2 := key j q hj
    omega
  · show g.2.2 ≤ q.1
    rw [key k q hk]
    omega
theorem xW_len (g : xG) (n : Nat) (h : xHp) : (xW g n h).length = n := by simp [xW]
theorem xW_set {g : xG} {n : Nat} {h : xHp} {q : Nat} {e : xE} : (xW g n h).set q (g.2.2 + q, xcv g e) = xW g n (xup h q e) := by
  apply List.ext_getElem?
  intro k
  by_cases hk : k < n
  · by_cases hq : q = k
    · subst hq
      rw [List.getElem?_set_self (by rw [xW_len]; exact hk), xW_get hk (xup_s)]
    · rw [List.getElem?_set_ne hq]
      simp only [xW, List.getElem?_map, List.getElem?_range hk, Option.map_some]
      rw [xup_n (fun q' => hq q'.symm)]
  · rw [List.getElem?_eq_none (by rw [List.length_set, xW_len]; omega), List.getElem?_eq_none (by rw [xW_len]; omega)]
theorem xW_app {g : xG} {n : Nat} {h : xHp} {e : xE} : xW g n h ++ [(g.2.2 + n, xcv g e)] = xW g (n + 1) (xup h n e) := by
  unfold xW
  rw [List.range_succ, List.map_append]
  congr 1
  · apply List.map_congr_left
    intro k hk
    rw [List.mem_range] at hk
    rw [xup_n (by omega)]
  · simp [xup_s, xco]
theorem xP.lt {g : xG} {n : Nat} {h : xHp} {H : Heap} (hP : xP g n h H) {q : Nat} {e : xE} (he : h q = some e) : q < n := by
  rcases Nat.lt_or_ge q n with a | a
  · exact a
  · rw [hP.2.1 q a] at he; cases he
theorem xP.get {g : xG} {n : Nat} {h : xHp} {H : Heap} (hP : xP g n h H) {q : Nat} {e : xE} (he : h q = some e) : (xW g n h)[q]? = some (g.2.2 + q, xcv g e) := xW_get (hP.lt he) he
/-- one cell is written -/
theorem xP.put {g : xG} {n : Nat} {h : xHp} {H H1 : Heap} (hP : xP g n h H) {q : Nat} {e0 e : xE} (he : h q = some e0) (hz : H1.size = H.size) (ha : va_at g.1 xcl (g.2.2 + q, xcv g e) H1) (oq : ∀ a : Nat, a ≠ g.2.2 + q → H1[a]? = H[a]?) : xP g n (xup h q e) H1 := by
  refine ⟨by rw [hz]; exact hP.1, fun k hk => ?_, ?_⟩
  · rw [xup_n (by have := hP.lt he; omega)]
    exact hP.2.1 k hk
  · rw [← xW_set]
    exact hP.2.2.set (xW_D g n h) (hP.get he) ha oq
/-- one cell is made -/
theorem xP.push {g : xG} {n : Nat} {h : xHp} {H H1 : Heap} (hP : xP g n h H) {e : xE} (hz : H1.size = H.size + 1) (ha : va_at g.1 xcl (g.2.2 + n, xcv g e) H1) (oq : ∀ a : Nat, a < H.size → H1[a]? = H[a]?) : xP g (n + 1) (xup h n e) H1 := by
  refine ⟨by rw [hz, hP.1]; omega, fun k hk => ?_, ?_⟩
  · rw [xup_n (by omega)]
    exact hP.2.1 k (by omega)
  · rw [← xW_app]
    refine (hP.2.2.kept fun k x hx => oq x.1 ((hP.2.2 k x hx).lt)).app fun k x hx => ?_
    have hz : k < 1 := (List.getElem?_eq_some_iff.mp hx).1
    rw [show k = 0 by omega] at hx
    cases hx
    exact ha
/-- the words -/
def xWd : List Cond := lw_tbl.filter goodWord
def xin (w : Cond) : Bool := decide (w ∈ lw_tbl) && goodWord w
theorem xin_mem {w : Cond} (h : xin w = true) : w ∈ xWd := by
  simp only [xin, Bool.and_eq_true, decide_eq_true_eq] at h
  exact List.mem_filter.mpr h
theorem xWd_good {w : Cond} (h : w ∈ xWd) : goodWord w = true := (List.mem_filter.mp h).2
def xlen : Instr → Nat
  | .iload _ => 2
  | .lload _ => 2
  | .aload _ => 2
  | .istore _ => 2
  | .lstore _ => 2
  | .astore _ => 2
  | .bipush _ => 2
  | .ldc _ => 2
  | .newarray _ => 2
  | .sipush _ => 3
  | .ldc_w _ => 3
  | .ldc2_w _ => 3
  | .getfield _ => 3
  | .putfield _ => 3
  | .iinc _ _ => 3
  | .ifCond _ _ => 3
  | .if_icmp _ _ => 3
  | .goto _ => 3
  | .invokevirtual _ => 3
  | .invokestatic _ => 3
  | .invokespecial _ => 3
  | .new _ => 3
  | .anewarray _ => 3
  | .tableswitch _ _ _ _ => 31
  | _ => 1
def xnp (y : MethodName) : Option Nat := (parseMethodDescriptor y.desc).map (fun d => d.parameters.length)
def xnh (y : MethodName) : Bool := decide (y.cls ≠ "java/lang/invoke/MethodHandle") && decide (y.cls ≠ "java/lang/invoke/VarHandle")
/-- a word by its place -/
def xat1 (k : Nat) (w : Cond) : Bool := (match xat lw_tbl k with | some u => decide (u = w) | none => false) && goodWord w
theorem xat_mem {α : Type} : ∀ {l : List α} {k : Nat} {a : α}, xat l k = some a → a ∈ l
  | [], k, a, h => by simp [xat] at h
  | b :: t, 0, a, h => by simp only [xat, Option.some.injEq] at h; rw [h]; exact List.mem_cons_self
  | b :: t, k + 1, a, h => by simp only [xat] at h; exact List.mem_cons_of_mem _ (xat_mem h)
theorem xat1_mem {k : Nat} {w : Cond} (h : xat1 k w = true) : w ∈ xWd := by
  unfold xat1 at h
  rw [Bool.and_eq_true] at h
  obtain ⟨h1, h2⟩ := h
  cases hu : xat lw_tbl k with
  | none => rw [hu] at h1; cases h1
  | some u =>
    rw [hu] at h1
    simp only [decide_eq_true_eq] at h1
    subst h1
    exact List.mem_filter.mpr ⟨xat_mem hu, h2⟩
/-- the words of a method that is called -/
def xhd (q : xH × Nat × Nat × Nat × Nat) : Bool := xat1 q.2.2.1 (.initialized q.1.2.1.cls) && xnh q.1.2.1 && decide (xnp q.1.2.1 = some q.1.2.2.2.2.2.2) && decide (q.1.2.2.2.1 ≤ 45) &&
  (if q.1.2.2.2.2.2.1 = 0 then xat1 q.2.2.2.1 (.static q.1.2.1) else xat1 q.2.2.2.1 (.instanceMethod q.1.2.1) && (if q.1.2.2.2.2.2.1 = 2 then decide (q.1.2.1.name = "<init>") && decide (q.1.2.2.2.2.1 = none) else xat1 q.2.2.2.2 (.selects q.1.2.1.cls q.1.2.1 q.1.2.1) && (match xcl[q.1.1]? with | some r => decide (r.1 = q.1.2.1.cls) | none => false)))
/-- the word of its code, by its place -/
def xhc (q : xH × Nat × Nat × Nat × Nat) : Prop := xat lw_tbl q.2.1 = some (.code q.1.2.1 q.1.2.2.1 q.1.2.2.2.1 q.1.2.2.2.2.1)
def xlk (own : String) (i : Nat) (y : MethodName) (hh : Nat) : Bool := xat1 hh (.methodLink own i y) || decide ((own, i, y) ∈ xNs)
def xsp (own : String) (pc : Nat) (ins : Instr) (a : Int) (b hh : Nat) : Bool :=
  match ins with
  | .iconst n => decide (n = a)
  | .bipush n => decide ((Int8.ofInt n).toInt32 = Int32.ofInt a)
  | .sipush n => decide ((Int16.ofInt n).toInt32 = Int32.ofInt a)
  | .lconst n => decide (Int64.ofNat (n : Nat) = Int64.ofInt a)
  | .ldc i => xat1 hh (.constant own i (Int32.ofInt a))
  | .ldc_w i => xat1 hh (.constant own i (Int32.ofInt a))
  | .ldc2_w i => xat1 hh (.constantLong own i (Int64.ofInt a))
  | .getfield i => (match xcl[a.toNat]? with | some r => decide (b < r.2.2) && xat1 hh (.fieldLink own i (r.2.1 b).1 (r.2.1 b).2.1 (r.2.1 b).2.2.1) | none => false)
  | .putfield i => (match xcl[a.toNat]? with | some r => decide (b < r.2.2) && xat1 hh (.fieldLink own i (r.2.1 b).1 (r.2.1 b).2.1 (r.2.1 b).2.2.1) | none => false)
  | .ifCond _ off => decide ((pc : Int) + off = (b : Int))
  | .if_icmp _ off => decide ((pc : Int) + off = (b : Int))
  | .goto off => decide ((pc : Int) + off = (b : Int))
  | .invokevirtual i => (match xat xHs b with | some M => decide (M.2.2.2.2.2.1 = 1) && decide (a = (M.2.2.2.2.2.2 : Int) + 1) && xat1 hh (.methodLink own i M.2.1) | none => false)
  | .invokestatic i => if b = 1001 then xin (.methodLink own i arraycopyName) && xin (.native arraycopyName) && xin (.static arraycopyName) && xin (.initialized "java/lang/System") else (match xat xHs b with | some M => decide (M.2.2.2.2.2.1 = 0) && decide (a = (M.2.2.2.2.2.2 : Int)) && xlk own i M.2.1 hh | none => false)
  | .invokespecial i => if b = 1000 then xin (.methodLink own i Lib.objectInit) && xin (.instanceMethod Lib.objectInit) && xin (.code Lib.objectInit ⟨#[0xb1]⟩ 1 none) else (match xat xHs b with | some M => decide (M.2.2.2.2.2.1 = 2) && decide (a = (M.2.2.2.2.2.2 : Int) + 1) && xlk own i M.2.1 hh | none => false)
  | .new i => (match xcl[a.toNat]? with | some r => xat1 hh (.classLink own i r.1) && xin (.instantiable r.1 r.2.2) && xin (.initialized r.1) | none => false)
  | .newarray t => xin (.arrayClass (newarray.typeOf t)) && (decide (t = .int) || decide (t = .long))
  | .anewarray i => xat1 hh (.classLink own i RX3)
  | _ => true
def xix (ins : Instr) (b mL : Nat) : Bool :=
  match ins with
  | .iload k => decide (k = b)
  | .lload k => decide (k = b)
  | .aload k => decide (k = b)
  | .istore k => decide (k = b) && decide (b < mL)
  | .lstore k => decide (k = b) && decide (b + 1 < mL)
  | .astore k => decide (k = b) && decide (b < mL)
  | .iload_n k => decide (k.val = b)
  | .lload_n k => decide (k.val = b)
  | .aload_n k => decide (k.val = b)
  | .istore_n k => decide (k.val = b) && decide (b < mL)
  | .lstore_n k => decide (k.val = b) && decide (b + 1 < mL)
  | .astore_n k => decide (k.val = b) && decide (b < mL)
  | .iinc k _ => decide (k = b) && decide (b < mL)
  | _ => true
def xok1 (own : String) (bytes : ByteArray) (mL pc : Nat) (e : xI) : Bool := decide (decode bytes pc = .ok (e.1, xlen e.1)) && decide (e.2.1 = pc + xlen e.1) && xsp own pc e.1 e.2.2.1 e.2.2.2.1 e.2.2.2.2 && xix e.1 e.2.2.2.1 mL
def xokL (own : String) (bytes : ByteArray) (mL : Nat) : Nat → List (Option xI) → Bool
  | _, [] => true
  | pc, none :: t => xokL own bytes mL (pc + 1) t
  | pc, some e :: t => xok1 own bytes mL pc e && xokL own bytes mL (pc + 1) t
def xGd (M : xM) : Bool := (match xown[M.1.1]? with | some own => xokL own M.1.2.2.1 M.1.2.2.2.1 0 M.2 && decide (M.1.2.1.cls = own) | none => false) && plainName M.1.2.1.cls
def xfe (M : xM) (pc : Nat) : Option xI := match xat M.2 pc with | some (some e) => some e | _ => none
theorem xokL_at {own : String} {bytes : ByteArray} {mL : Nat} : ∀ {l : List (Option xI)} {q pc : Nat} {e : xI}, xokL own bytes mL q l = true → xat l pc = some (some e) → xok1 own bytes mL (q + pc) e = true
  | [], q, pc, e, h, h2 => by simp [xat] at h2
  | none :: t, q, 0, e, h, h2 => by simp [xat] at h2
  | some e' :: t, q, 0, e, h, h2 => by
    simp only [xat, Option.some.injEq] at h2
    subst h2
    simp only [xokL, Bool.and_eq_true] at h
    exact h.1
  | none :: t, q, pc + 1, e, h, h2 => by
    simp only [xat] at h2
    simp only [xokL] at h
    have := xokL_at h h2
    rwa [show q + (pc + 1) = q + 1 + pc by omega]
  | some e' :: t, q, pc + 1, e, h, h2 => by
    simp only [xat] at h2
    simp only [xokL, Bool.and_eq_true] at h
    have := xokL_at h.2 h2
    rwa [show q + (pc + 1) = q + 1 + pc by omega]
/-- what a fetched entry says -/
theorem xfe_ok {M : xM} {pc : Nat} {ins : Instr} {nx : Nat} {a : Int} {b hh : Nat} (hG : xGd M = true) (hf : xfe M pc = some (ins, nx, a, b, hh)) : decode M.1.2.2.1 pc = .ok (ins, xlen ins) ∧ nx = pc + xlen ins ∧ xsp M.1.2.1.cls pc ins a b hh = true ∧ xix ins b M.1.2.2.2.1 = true := by
  unfold xGd at hG
  rw [Bool.and_eq_true] at hG
  have hG := hG.1
  cases ho : xown[M.1.1]? with
  | none => rw [ho] at hG; cases hG
  | some own =>
    rw [ho] at hG
    simp only [Bool.and_eq_true, decide_eq_true_eq] at hG
    unfold xfe at hf
    have h2 : xat M.2 pc = some (some (ins, nx, a, b, hh)) := by
      cases hx : xat M.2 pc with
      | none => rw [hx] at hf; cases hf
      | some o =>
        cases o with
        | none => rw [hx] at hf; cases hf
        | some e => rw [hx] at hf; simp only [Option.some.injEq] at hf; rw [hf]
    have h3 := xokL_at hG.1 h2
    simp only [Nat.zero_add, xok1, Bool.and_eq_true, decide_eq_true_eq] at h3
    rw [hG.2]
    exact ⟨h3.1.1.1, h3.1.1.2, h3.1.2, h3.2⟩
theorem xGd_name {M : xM} (hG : xGd M = true) : plainName M.1.2.1.cls = true := by
  unfold xGd at hG
  rw [Bool.and_eq_true] at hG
  exact hG.2
set_option maxRecDepth 100000 in
theorem xHs_eq : xHt.map (fun q => q.1) = xHs := rfl
theorem xat_map {α β : Type} (f : α → β) : ∀ {l : List α} {k : Nat} {b : β}, xat (l.map f) k = some b → ∃ a, a ∈ l ∧ f a = b
  | [], k, b, h => by simp [xat] at h
  | a :: t, 0, b, h => by simp only [List.map_cons, xat, Option.some.injEq] at h; exact ⟨a, List.mem_cons_self, h⟩
  | a :: t, k + 1, b, h => by
    simp only [List.map_cons, xat] at h
    obtain ⟨c, h1, h2⟩ := xat_map f h
    exact ⟨c, List.mem_cons_of_mem _ h1, h2⟩
