/-! Calls by contract -/
def xws (M : xM) : List Cond := Cond.code M.1.2.1 M.1.2.2.1 M.1.2.2.2.1 M.1.2.2.2.2.1 :: xWd
def xPc (g : xG) (av : List Value) (n : Nat) (h : xHp) : Array Value → State → Prop := fun v U => v = (av.map (xr g.2.2)).toArray ∧ xP g n h U.heap ∧ va_K g.1 xcl (xTy g) U ∧ xNw U
/-- a method's contract at these arguments and cells -/
def xCall (M : xM) (d mc ms : Nat) (av : List Value) (n : Nat) (h : xHp) (Q : xQt) : Prop := ∀ (l : Launch) (g : xG), Met l M.1.2.1 (xws M) (xR d mc ms) (xPc g av n h) (xQ g Q) mc ms (xA g)
theorem xNw_moved {s U : State} (hW : s.WarmedH U.vm) (h : xNw s) : xNw U := ⟨fun q hq => va_Nw.warmM hW (h.1 q hq), h.2.moved hW.alike⟩
theorem xPc_blind (g : xG) (av : List Value) (n : Nat) (h : xHp) : FrameBlind (xPc g av n h) := fun a U f mk q => by
  obtain ⟨q0, q1, q2, q3⟩ := q
  exact ⟨q0, q1, va_K.moved (u := U) (U := U.calling f mk a) (Vm.Alike.refl U.vm) q2, fun w hw => va_Nw.same rfl (rfl : U.vm = (U.calling f mk a).vm) (q3.1 w hw), q3.2.moved (Vm.Alike.refl U.vm)⟩
def xen : List Value → xL
  | [] => []
  | v :: t => (match xc2 v with | true => some v :: none :: xen t | false => some v :: xen t)
def xpad : xL → Nat → xL
  | l, 0 => l
  | [], k + 1 => none :: xpad [] k
  | a :: t, k + 1 => a :: xpad t k
theorem xpad_gt : ∀ {l : xL} {k j : Nat} {v : Value}, xgt (xpad l k) j = some v → xgt l j = some v
  | l, 0, j, v, h => by simpa only [xpad] using h
  | [], k + 1, 0, v, h => by simp [xpad, xgt] at h
  | [], k + 1, j + 1, v, h => by
    simp only [xpad, xgt] at h
    have := xpad_gt h
    simp [xgt] at this
  | a :: t, k + 1, 0, v, h => by simpa only [xpad, xgt] using h
  | a :: t, k + 1, j + 1, v, h => by
    simp only [xpad, xgt] at h
    simpa only [xgt] using xpad_gt h
theorem xen_args (z : Nat) : ∀ (av : List Value) (q j : Nat) (v : Value), xgt (xen av) j = some v → (q + j, xr z v) ∈ lv_args q (av.map (xr z))
  | [], q, j, v, h => by simp [xen, xgt] at h
  | w :: t, q, j, v, h => by
    simp only [List.map_cons, lv_args]
    cases hw : xc2 w with
    | true =>
      have hc := (xc2_cat w).mp hw
      simp only [xen, hw] at h
      match j, h with
      | 0, h => simp only [xgt, Option.some.injEq] at h; subst h; exact List.mem_cons_self
      | 1, h => simp [xgt] at h
      | j + 2, h =>
        simp only [xgt] at h
        refine List.mem_cons_of_mem _ ?_
        rw [xr_cat, if_pos hc, show q + (j + 2) = q + 2 + j by omega]
        exact xen_args z t (q + 2) j v h
    | false =>
      have hc : ¬ w.category = 2 := fun q => by rw [(xc2_cat w).mpr q] at hw; cases hw
      simp only [xen, hw] at h
      match j, h with
      | 0, h => simp only [xgt, Option.some.injEq] at h; subst h; exact List.mem_cons_self
      | j + 1, h =>
        simp only [xgt] at h
        refine List.mem_cons_of_mem _ ?_
        rw [xr_cat, if_neg hc, show q + (j + 1) = q + 1 + j by omega]
        exact xen_args z t (q + 1) j v h
theorem xen_len (z : Nat) : ∀ (av : List Value), (lg_sl (av.map (xr z))).length = (xen av).length
  | [] => rfl
  | w :: t => by
    have ih := xen_len z t
    simp only [lg_sl, List.map_cons, List.flatMap_cons, List.length_append] at ih ⊢
    rw [ih, xr_cat]
    cases hw : xc2 w with
    | true =>
      rw [if_pos ((xc2_cat w).mp hw)]
      simp only [xen, hw, List.length_cons, List.length_nil]
      omega
    | false =>
      rw [if_neg (fun q => by rw [(xc2_cat w).mpr q] at hw; cases hw)]
      simp only [xen, hw, List.length_cons, List.length_nil]
      omega
/-- a contract out of the run from its entry -/
theorem xCall.of {M : xM} {d mc ms : Nat} {av : List Value} {n : Nat} {h : xHp} {Q : xQt} (hG : xGd M = true) (hlen : Nat.ble (xen av).length M.1.2.2.2.1 = true) (k : xT M (d, mc, ms, 0, 0) 0 (xpad (xen av) M.1.2.2.2.1) [] n h Q) : xCall M d mc ms av n h Q := by
  have hlen := Nat.le_of_ble_eq_true hlen
  intro l g
  refine Met.ofW (cc := M.1.2.2.1) (maxL := M.1.2.2.2.1) (ret := M.1.2.2.2.2.1) (xGd_name hG) rfl ?_
  intro p e s m args below meth c s₁ B hml hv
  obtain ⟨rfl, hP, hK, hN⟩ := hv
  have hts := atoms_spec (ws := xws M) B.pre
  have hl := lv_entry (av.map (xr g.2.2)) (n := M.1.2.2.2.1) (by rw [xen_len]; exact hlen)
  rw [lg_entry_eq]
  refine k g p l e s m _ below meth c s.heap [] _ ⟨B.exec, B.bytes, hml, findClass_of_methodNamed B.named, fun w hw => hts w (List.mem_cons_of_mem _ hw), B.returns, B.notSynchronized, (name_of_methodNamed B.named B.method).1, hK, hN, hG, by rw [hP.1]; omega⟩ hP va_S.rf ⟨hl.1, hl.2.1, fun i v hi => ?_⟩
  have := xen_args g.2.2 av 0 i v (xpad_gt hi)
  rw [Nat.zero_add] at this
  exact hl.2.2 _ this
/-- the stack's upper values as arguments -/
def xtk : Nat → List Value → List Value → Option (List Value × List Value)
  | 0, st, acc => some (acc, st)
  | _ + 1, [], _ => none
  | k + 1, v :: st, acc => xtk k st (v :: acc)
theorem xtk_spec : ∀ {k : Nat} {st acc av rest : List Value}, xtk k st acc = some (av, rest) → ∃ us, av = us ++ acc ∧ st = us.reverse ++ rest ∧ us.length = k
  | 0, st, acc, av, rest, h => by simp only [xtk, Option.some.injEq, Prod.mk.injEq] at h; exact ⟨[], by simp [h.1], by simp [h.2], rfl⟩
  | k + 1, [], acc, av, rest, h => by simp [xtk] at h
  | k + 1, v :: st, acc, av, rest, h => by
    simp only [xtk] at h
    obtain ⟨us, h1, h2, h3⟩ := xtk_spec h
    exact ⟨us ++ [v], by simp [h1], by simp [h2], by simp [h3]⟩
def xcat (st : List Value) : Nat := (st.map fun v => v.category).sum
theorem xcat_r (z : Nat) (st : List Value) : ((st.map (xr z)).map fun v => v.category).sum = xcat st := by
  rw [List.map_map]
  unfold xcat
  congr 2
  funext v
  exact xr_cat z v
theorem xGI {ws : List Cond} (h : ∀ w ∈ ws, w ∈ xWd) : GoodIn xWd ws := fun w hw => ⟨h w hw, good_of_word (xWd_good (h w hw))⟩
section XCALL
variable {p : Program} {l0 : Launch} {e : Env} {R : Room} {s : State} {m : MethodId} {args : Array Value} {below : List Frame} {meth : Method} {c : Code} {H : Heap} {locs : List Loc} {cu su mc ms pc : Nat} {ls : Array Slot} {rest st0 : List Value} {g : xG} {Q' : xQt} {Qf : State → Prop} {av : Array Value} {H0 : Heap}
theorem x_call (hr : va_Run p l0 e R s m args below meth c H locs cu su mc ms (F0 m pc ls st0) rest (xQ g Q' av) (xA g)) (hS : va_S (xA g) H0 H locs)
    (kk : ∀ (r : Option Value) (n : Nat) (h : xHp) (H1 : Heap) (locs1 : List Loc), Q' r n h → xP g n h H1 → va_S (xA g) H0 H1 locs1 → W p l0 e R s m args below meth c H1 locs1 (cu + mc) (su + ms) Qf (F0 m (pc + 3) ls ((r.map (xr g.2.2)).toList ++ rest))) : W p l0 e R s m args below meth c H locs cu su Qf (F0 m pc ls st0) := by
  intro T hT X
  obtain ⟨v, st₀, t, T', L, h0, X', hL, e1, e2, ⟨⟨r, n, h, hv, hq, hP⟩, hz, hk⟩, st⟩ := hr T hT X
  cases hv
  rw [h0] at hz hk
  obtain ⟨t2, a1, b1⟩ := kk r n h T'.heap (locs ++ L) hq (by rw [e1]; exact hP)
    ⟨Nat.le_trans hS.1 (by rw [e1]; exact hz), fun q h1 h2 => by rw [e1, hk q (Nat.lt_of_lt_of_le h1 hS.1) h2]; exact hS.2.1 q h1 h2, fun q hq => by
      rcases List.mem_append.mp hq with h | h
      · exact hS.2.2 q h
      · exact hL q h⟩ T' rfl X'
  exact ⟨t2, st t2 a1, b1⟩
end XCALL
section XRUN
variable {p : Program} {l : Launch} {e : Env} {R : Room} {s : State} {m : MethodId} {args : Array Value} {below : List Frame} {meth : Method} {c : Code} {H : Heap} {locs : List Loc} {cells slots : Nat}
variable {y : MethodName} {bytes cc : ByteArray} {maxL nL mc ms n index : Nat} {ret : Option FieldType} {ws : List Cond} {rm : Room} {Pc : Array Value → State → Prop} {Qc : Array Value → State → Outcome → State → Prop} {free : Addr → Prop} {Ts : List Cond} {own C : String} {b : Addr} {As rest : List Value} {g : JFrame}
/-- a call with up to twenty words below its arguments -/
theorem x_runV (S : CallFix p m c cc nL s args Ts own) (hM : Met l y ws rm Pc Qc mc ms free) (cw : CallW R s args own C index y bytes maxL ret ws rm mc ms n) (h20 : 20 + (maxL + 11) + rm.locals ≤ R.locals) (hp : PreV s H C b Pc As)
    (hg : g.method = m) (hn : As.length = n) (hsize : g.locals.size = nL) (hstack : g.stack = As.reverse ++ .ref b :: rest) (hW : 2 * g.monitorRoom + (rest.map fun v => v.category).sum ≤ 20) (hdg : decode cc g.pc = .ok (.invokevirtual index, 3)) (hf : cells + mc ≤ R.cells ∧ slots + ms ≤ R.slots) :
    va_Run p l e R s m args below meth c H locs cells slots mc ms g rest (Qc (Value.ref b :: As).toArray) (free) := by
  obtain ⟨⟨hrc, hrs, hfr, -, hws, hcw, hcode, hini, hy, hlen, hl⟩, hin, hse⟩ := cw
  have hK : Back l R p e below s args y 3 20 (PreOf R mc ms Pc) (PostOf Qc mc ms free) := back_of (bytes := bytes) (maxL := maxL) (ret := ret) hM hp.1 hrc hrs hfr h20 hws hcw (fun a' U hWm => word_at hWm (Or.inl (by first | rfl | simp [Cond.onTables, Cond.keeps, Cond.steady])) hini)
  obtain ⟨hx, hb, hml, ho, -⟩ := S
  obtain ⟨-, ⟨cellB, hcB, hoB, hclB⟩, hPc⟩ := hp
  intro T hT X
  obtain ⟨v, vm₁, ⟨U', l2, c2, s2⟩, hW₁, X', ⟨g', mk, t, L, e1, e2, hq, h1, hL, h2, h3⟩, st⟩ := callV X hx (C := C) (bytes := bytes) (maxL := maxL) (ret := ret) ho hl hin hse hcode hy hK (by rw [hT]; exact hcB) hoB hclB hg (hsize.trans hml.symm) (argsL := As) (rest := rest) (fun sig h => hn.trans (hlen sig h)) hstack hW (by rw [hb]; exact hdg) (fun vm₁ hW₁ => ⟨hf.1, hf.2, hPc (T.setVm vm₁) hT hW₁⟩)
  dsimp only [Pt.U, Pt.locs, Pt.cells, Pt.slots] at X' e1 e2 h1 h2 h3 st
  subst h1; subst h2; subst h3
  exact ⟨v, (T.setVm vm₁).calling g' mk (Value.ref b :: As).toArray, t, U', L, hT, X', hL, e1, e2, hq, st⟩
end XRUN
theorem xhead {b : Nat} {M : xH} (h : xat xHs b = some M) : Cond.code M.2.1 M.2.2.1 M.2.2.2.1 M.2.2.2.2.1 ∈ xWd ∧ Cond.initialized M.2.1.cls ∈ xWd ∧ (M.2.1.cls ≠ "java/lang/invoke/MethodHandle" ∧ M.2.1.cls ≠ "java/lang/invoke/VarHandle") ∧ xnp M.2.1 = some M.2.2.2.2.2.2 ∧ M.2.2.2.1 ≤ 45 ∧
    (M.2.2.2.2.2.1 = 0 → Cond.static M.2.1 ∈ xWd) ∧ (M.2.2.2.2.2.1 = 2 → Cond.instanceMethod M.2.1 ∈ xWd ∧ M.2.1.name = "<init>" ∧ M.2.2.2.2.1 = none) ∧
    (M.2.2.2.2.2.1 = 1 → Cond.instanceMethod M.2.1 ∈ xWd ∧ Cond.selects M.2.1.cls M.2.1 M.2.1 ∈ xWd ∧ ∃ r, xcl[M.1]? = some r ∧ r.1 = M.2.1.cls) := by
  rw [← xHs_eq] at h
  obtain ⟨q, hq, rfl⟩ := xat_map _ h
  have h1 := xHt_code q hq
  have h2 := xHt_ok q hq
  unfold xhd at h2
  simp only [Bool.and_eq_true, decide_eq_true_eq, xnh] at h2
  obtain ⟨⟨⟨⟨a1, a2⟩, a3⟩, a4⟩, a5⟩ := h2
  refine ⟨List.mem_filter.mpr ⟨xat_mem h1, rfl⟩, xat1_mem a1, a2, a3, a4, fun z => ?_, fun z => ?_, fun z => ?_⟩
  · rw [if_pos z] at a5
    exact xat1_mem a5
  · rw [if_neg (by omega), if_pos z] at a5
    simp only [Bool.and_eq_true, decide_eq_true_eq] at a5
    exact ⟨xat1_mem a5.1, a5.2.1, a5.2.2⟩
  · rw [if_neg (by omega), if_neg (by omega)] at a5
    simp only [Bool.and_eq_true] at a5
    refine ⟨xat1_mem a5.1, xat1_mem a5.2.1, ?_⟩
    cases hr : xcl[q.1.1]? with
    | none => rw [hr] at a5; exact absurd a5.2.2 (by simp)
    | some r =>
      rw [hr] at a5
      exact ⟨r, rfl, of_decide_eq_true a5.2.2⟩
section XC
variable {M M' : xM} {d mc ms cu su d' mc' ms' : Nat} {pc nx b hh i : Nat} {a : Int} {l : xL} {st st' av : List Value} {n : Nat} {h : xHp} {Q Q' : xQt}
theorem xroom (hd : d' + 1 ≤ d) {L : Nat} (hL : L ≤ 45) : (xR d' mc' ms').frames + 1 ≤ (xR d mc ms).frames ∧ 8 + (L + 11) + (xR d' mc' ms').locals ≤ (xR d mc ms).locals := ⟨hd, by show 8 + (L + 11) + 80 * d' ≤ 80 * d; omega⟩
theorem tt_callV {q ci : Nat} {fs : List Value} (hf : xfe M pc = some (.invokevirtual i, nx, a, b, hh)) (hM : xat xHs b = some M'.1) (hst : xtk a.toNat st' [] = some (.ref q :: av, st)) (hq : h q = some (.inr (ci, fs))) (hci : M'.1.1 = ci) (hC : xCall M' d' mc' ms' (.ref q :: av) n h Q') (k : ∀ r n' h', Q' r n' h' → xT M (d, mc, ms, cu + mc', su + ms') nx l (r.toList ++ st) n' h' Q) (hd : d' + 1 ≤ d := by exact Nat.le_of_ble_eq_true rfl) (h1 : cu + mc' ≤ mc := by exact Nat.le_of_ble_eq_true rfl) (h2 : su + ms' ≤ ms := by exact Nat.le_of_ble_eq_true rfl) (hW : xcat st ≤ 20 := by exact Nat.le_of_ble_eq_true rfl)
    : xT M (d, mc, ms, cu, su) pc l st' n h Q := by
  intro g p l0 e s m args below meth c H locs ls C hP hS hL
  obtain ⟨hx, hb, hml, hown, hts, hr, hlk, hnm, hK, hN, hG, hz⟩ := id C
  obtain ⟨hdc, hnx, hsp, hix⟩ := xfe_ok hG hf
  subst hnx
  simp only [xsp, hM, Bool.and_eq_true, decide_eq_true_eq] at hsp
  obtain ⟨c1, c2, c3, c4, c5, -, -, c6⟩ := xhead hM
  obtain ⟨c7, c8, r, c9, c10⟩ := c6 hsp.1.1
  obtain ⟨us, u1, u2, u3⟩ := xtk_spec hst
  simp only [List.append_nil] at u1
  subst u1
  subst hci
  have hstk : st'.map (xr g.2.2) = (av.map (xr g.2.2)).reverse ++ .ref (g.2.2 + q) :: st.map (xr g.2.2) := by
    rw [u2]; simp [xr]
  have hlen : (av.map (xr g.2.2)).length = M'.1.2.2.2.2.2.2 := by
    have e1 := hsp.1.2
    simp only [List.length_cons] at u3
    rw [List.length_map]
    omega
  refine x_call (g := g) (Q' := Q') (mc := mc') (ms := ms') (rest := st.map (xr g.2.2)) (x_runV (As := av.map (xr g.2.2)) (b := g.2.2 + q) ⟨hx, hb, hml, hown, hts⟩ (hC l0 g) (cwV (ws' := xWd) M'.1.2.2.2.2.2.2 hts (xGI fun w hw => ?_) rfl rfl rfl ⟨rfl, c3.1, c3.2, c4⟩ (xroom hd c5)) (by show 20 + (M'.1.2.2.2.1 + 11) + 80 * d' ≤ 80 * d; omega) ⟨xPc_blind g _ n h, ?_, fun U hU hWm => ⟨by simp [xr], by rw [hU]; exact hP, va_K.moved hWm.alike hK, xNw_moved hWm hN⟩⟩ rfl hlen hL.1 hstk ?_ hdc ⟨h1, h2⟩) hS ?_
  · simp only [wsV, List.mem_append, List.mem_cons, List.not_mem_nil, or_false] at hw
    rcases hw with (rfl | rfl | rfl | rfl) | hw
    · exact xat1_mem hsp.2
    · exact c7
    · exact c8
    · exact c2
    · rcases List.mem_cons.mp hw with rfl | hw
      · exact c1
      · exact hw
  · obtain ⟨cell, k1, k2, k3⟩ := va_recv hK hP.2.2 c9 (hP.get hq)
    exact ⟨cell, k1, k2, by rw [← c10]; exact k3⟩
  · rw [xcat_r]
    show 2 * 0 + xcat st ≤ 20
    omega
  · intro r1 n1 h1' H1 locs1 hq1 hP1 hS1
    have := k r1 n1 h1' hq1 g p l0 e s m args below meth c H1 locs1 ls C hP1 hS1 hL
    cases r1 <;> exact this
theorem tt_callS (hf : xfe M pc = some (.invokestatic i, nx, a, b, hh)) (hM : xat xHs b = some M'.1) (hb1 : Nat.beq b 1001 = false) (hst : xtk a.toNat st' [] = some (av, st)) (hC : xCall M' d' mc' ms' av n h Q') (k : ∀ r n' h', Q' r n' h' → xT M (d, mc, ms, cu + mc', su + ms') nx l (r.toList ++ st) n' h' Q) (hd : d' + 1 ≤ d := by exact Nat.le_of_ble_eq_true rfl) (h1 : cu + mc' ≤ mc := by exact Nat.le_of_ble_eq_true rfl) (h2 : su + ms' ≤ ms := by exact Nat.le_of_ble_eq_true rfl) (hW : xcat st ≤ 8 := by exact Nat.le_of_ble_eq_true rfl)
    : xT M (d, mc, ms, cu, su) pc l st' n h Q := by
  intro g p l0 e s m args below meth c H locs ls C hP hS hL
  obtain ⟨hx, hb, hml, hown, hts, hr, hlk, hnm, hK, hN, hG, hz⟩ := id C
  obtain ⟨hdc, hnx, hsp, hix⟩ := xfe_ok hG hf
  subst hnx
  have hb1 := Nat.ne_of_beq_eq_false hb1
  simp only [xsp, if_neg hb1, hM, Bool.and_eq_true, decide_eq_true_eq] at hsp
  obtain ⟨c1, c2, c3, c4, c5, c6, -, -⟩ := xhead hM
  have c7 := c6 hsp.1.1
  obtain ⟨us, u1, u2, u3⟩ := xtk_spec hst
  simp only [List.append_nil] at u1
  subst u1
  have hstk : st'.map (xr g.2.2) = (av.map (xr g.2.2)).reverse ++ st.map (xr g.2.2) := by
    rw [u2]; simp
  have hlen : (av.map (xr g.2.2)).length = M'.1.2.2.2.2.2.2 := by
    have e1 := hsp.1.2
    rw [List.length_map]
    omega
  have hsum : 2 * (F0 m pc ls (st'.map (xr g.2.2))).monitorRoom + ((st.map (xr g.2.2)).map fun v => v.category).sum ≤ 8 := by
    rw [xcat_r]
    show 2 * 0 + xcat st ≤ 8
    omega
  have hpre : PreS s H (xPc g av n h) (av.map (xr g.2.2)) := ⟨xPc_blind g _ n h, fun U hU hWm => ⟨rfl, by rw [hU]; exact hP, va_K.moved hWm.alike hK, xNw_moved hWm hN⟩⟩
  have hgi : GoodIn xWd (xws M') := xGI fun w hw => by
    rcases List.mem_cons.mp hw with rfl | hw
    · exact c1
    · exact hw
  have hrun : va_Run p l0 e (xR d mc ms) s m args below meth c H locs cu su mc' ms' (F0 m pc ls (st'.map (xr g.2.2))) (st.map (xr g.2.2)) (xQ g Q' (av.map (xr g.2.2)).toArray) (xA g) := by
    have hl3 := hsp.2
    unfold xlk at hl3
    rw [Bool.or_eq_true] at hl3
    rcases hl3 with hl3 | hl3
    · exact va_runS ⟨hx, hb, hml, hown, hts⟩ (hC l0 g) ⟨callB_of (ws' := xWd) M'.1.2.2.2.2.2.2 hts hgi rfl rfl rfl (hts _ c2) (hts _ (xat1_mem hl3)) ⟨c3.1, c3.2, c4⟩ (xroom hd c5), hts _ c7⟩ hpre rfl hlen hL.1 hstk hsum hdc ⟨h1, h2⟩
    · have hnw := hN.1 _ (of_decide_eq_true hl3)
      exact va_runSN ⟨hx, hb, hml, hown, hts⟩ (hC l0 g) ⟨va_cnB (ws' := xWd) M'.1.2.2.2.2.2.2 hts hgi rfl rfl rfl hnw (hts _ c2) ⟨c3.1, c3.2, c4⟩ (xroom hd c5), hts _ c7, trivial⟩ hpre rfl hlen hL.1 hstk hsum hdc ⟨h1, h2⟩
  refine x_call hrun hS ?_
  intro r1 n1 h1' H1 locs1 hq1 hP1 hS1
  have := k r1 n1 h1' hq1 g p l0 e s m args below meth c H1 locs1 ls C hP1 hS1 hL
  cases r1 <;> exact this
theorem tt_callI {q : Nat} (hf : xfe M pc = some (.invokespecial i, nx, a, b, hh)) (hM : xat xHs b = some M'.1) (hb1 : Nat.beq b 1000 = false) (hst : xtk a.toNat st' [] = some (.ref q :: av, st)) (hC : xCall M' d' mc' ms' (.ref q :: av) n h Q') (k : ∀ r n' h', Q' r n' h' → xT M (d, mc, ms, cu + mc', su + ms') nx l (r.toList ++ st) n' h' Q) (hd : d' + 1 ≤ d := by exact Nat.le_of_ble_eq_true rfl) (h1 : cu + mc' ≤ mc := by exact Nat.le_of_ble_eq_true rfl) (h2 : su + ms' ≤ ms := by exact Nat.le_of_ble_eq_true rfl) (hW : xcat st ≤ 8 := by exact Nat.le_of_ble_eq_true rfl)
    : xT M (d, mc, ms, cu, su) pc l st' n h Q := by
  intro g p l0 e s m args below meth c H locs ls C hP hS hL
  obtain ⟨hx, hb, hml, hown, hts, hr, hlk, hnm, hK, hN, hG, hz⟩ := id C
  obtain ⟨hdc, hnx, hsp, hix⟩ := xfe_ok hG hf
  subst hnx
  have hb1 := Nat.ne_of_beq_eq_false hb1
  simp only [xsp, if_neg hb1, hM, Bool.and_eq_true, decide_eq_true_eq] at hsp
  obtain ⟨c1, c2, c3, c4, c5, -, c6, -⟩ := xhead hM
  obtain ⟨c7, c8, c9⟩ := c6 hsp.1.1
  obtain ⟨us, u1, u2, u3⟩ := xtk_spec hst
  simp only [List.append_nil] at u1
  subst u1
  have hstk : st'.map (xr g.2.2) = (av.map (xr g.2.2)).reverse ++ .ref (g.2.2 + q) :: st.map (xr g.2.2) := by
    rw [u2]; simp [xr]
  have hlen : (av.map (xr g.2.2)).length = M'.1.2.2.2.2.2.2 := by
    have e1 := hsp.1.2
    simp only [List.length_cons] at u3
    rw [List.length_map]
    omega
  have hsum : 2 * (F0 m pc ls (st'.map (xr g.2.2))).monitorRoom + ((st.map (xr g.2.2)).map fun v => v.category).sum ≤ 8 := by
    rw [xcat_r]
    show 2 * 0 + xcat st ≤ 8
    omega
  have hpre : PreS s H (xPc g (.ref q :: av) n h) (.ref (g.2.2 + q) :: av.map (xr g.2.2)) := ⟨xPc_blind g _ n h, fun U hU hWm => ⟨rfl, by rw [hU]; exact hP, va_K.moved hWm.alike hK, xNw_moved hWm hN⟩⟩
  have hws : xws M' = Cond.code M'.1.2.1 M'.1.2.2.1 M'.1.2.2.2.1 none :: xWd := by unfold xws; rw [c9]
  have hgi : GoodIn xWd (xws M') := xGI fun w hw => by
    rcases List.mem_cons.mp hw with rfl | hw
    · exact c1
    · exact hw
  have hrun : va_Run p l0 e (xR d mc ms) s m args below meth c H locs cu su mc' ms' (F0 m pc ls (st'.map (xr g.2.2))) (st.map (xr g.2.2)) (xQ g Q' (Value.ref (g.2.2 + q) :: av.map (xr g.2.2)).toArray) (xA g) := by
    have hl3 := hsp.2
    unfold xlk at hl3
    rw [Bool.or_eq_true] at hl3
    rcases hl3 with hl3 | hl3
    · exact va_runI ⟨hx, hb, hml, hown, hts⟩ (hC l0 g) (cwI (ws' := xWd) M'.1.2.2.2.2.2.2 hts hgi hws rfl rfl (hts _ c2) (hts _ (xat1_mem hl3)) (hts _ c7) c8 ⟨c3.1, c3.2, c4⟩ (xroom hd c5)) hpre rfl hlen hL.1 hstk hsum hdc ⟨h1, h2⟩
    · have hnw := hN.1 _ (of_decide_eq_true hl3)
      exact va_runIN ⟨hx, hb, hml, hown, hts⟩ (hC l0 g) ⟨va_cnB (ws' := xWd) M'.1.2.2.2.2.2.2 hts hgi hws rfl rfl hnw (hts _ c2) ⟨c3.1, c3.2, c4⟩ (xroom hd c5), c8, hts _ c7⟩ hpre rfl hlen hL.1 hstk hsum hdc ⟨h1, h2⟩
  refine x_call hrun hS ?_
  intro r1 n1 h1' H1 locs1 hq1 hP1 hS1
  have := k r1 n1 h1' hq1 g p l0 e s m args below meth c H1 locs1 ls C hP1 hS1 hL
  cases r1 <;> exact this
theorem tt_obj {q : Nat} (hf : xfe M pc = some (.invokespecial i, nx, a, 1000, hh)) (k : xT M (d, mc, ms, cu, su) nx l st n h Q) (hd : 1 ≤ d := by exact Nat.le_of_ble_eq_true rfl) (hW : xcat st ≤ 8 := by exact Nat.le_of_ble_eq_true rfl) : xT M (d, mc, ms, cu, su) pc l (.ref q :: st) n h Q := by
  intro g p l0 e s m args below meth c H locs ls C hP hS hL
  obtain ⟨hx, hb, hml, hown, hts, hr, hlk, hnm, hK, hN, hG, hz⟩ := id C
  obtain ⟨hdc, hnx, hsp, hix⟩ := xfe_ok hG hf
  subst hnx
  simp only [xsp, if_pos, Bool.and_eq_true] at hsp
  refine W.objInit hx hb hown (hts _ (xin_mem hsp.1.1)) (hts _ (xin_mem hsp.1.2)) (hts _ (xin_mem hsp.2)) rfl (hL.1.trans hml.symm) rfl hdc hd ?_ (k g p l0 e s m args below meth c H locs ls C hP hS hL)
  rw [xcat_r]
  show 2 * 0 + xcat st + 12 ≤ 80 * d
  omega
end XC
