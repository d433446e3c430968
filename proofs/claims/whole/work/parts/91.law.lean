/-! THE CLAIM OUT OF ONE WALK OF THE LAW'S BODY. Your part is whole_start (and what it stands on); all else here is the same for every law, but numbers. -/
def R_law : String := "SolidRowsLaw"
def lw_P (b : Addr) (xs : List Int32) (args : Array Value) (s : State) : Prop := args = #[.ref b] ∧ s.IntsAt b xs ∧ xs.length ≤ 320 ∧ (Jvm.Cond.and given_1 narrow_1).before args s = true
def lw_Q (_ : Array Value) (s : State) (o : Outcome) (t : State) : Prop := o = .returned (some (.int 1)) ∧ Framed s o t [] 600000 7302250
def lw_Z (below : List Frame) (a : Array Value) (s : State) : State → Prop := fun t => ∃ o, t.status = .running ∧ Ended t below o ∧ lw_Q a s o t
/-- the law's own end, with 1 on the stack, nothing written that was there before, its room as the claim has it -/
theorem lw_ret {p : Program} {l : Launch} {e : Env} {s : State} {m : MethodId} {below : List Frame} {meth : Method} {c : Code} {b : Nat} (hx : p.tables.exec = Jvm.exec) (hb : c.code = code) (hr : meth.sig.returnType = ret) (hlocks : meth.locks = false) {pc : Nat} {H : Heap} {ls : Array Slot} (hdg : decode code pc = .ok (.ireturn, 1)) : W p l e room_1 s m #[Value.ref b] below meth c H [] 600000 7302250 (lw_Z below #[Value.ref b] s) (F0 m pc ls [.int 1]) := by
  intro T hT X
  obtain ⟨fs, hret, hrun, hended, hW, hframe⟩ := X.leave (v := some (.int 1)) (hlocks := hlocks) (fun h => by rw [hr] at h; cases h)
  have hmeth' : T.vm.method? m = some meth := X.method'
  refine ⟨T.setFrames fs, ?_, .returned (some (.int 1)), hrun, hended, rfl, ⟨_, rfl⟩, hW, hframe⟩
  jvm_step X.here [X.here.top, hx, hb, hdg, hmeth', hr, ret, narrow_b1]
  (try refine ⟨rfl, ?_⟩); (try refine ⟨rfl, ?_⟩)
  first | (intro acts; rw [hret _ acts rfl rfl rfl]) | rw [hret _ _ rfl rfl rfl]
  exact Steps.refl _
/-- what holds at the law's entry: the machine, the code, the tables' words (any of lw_tbl by 'hts w (by decide +kernel)'), the script of L ints xs at the cell b, what the Statement gives of the start (any of its parts by flat_of_before) -/
def lw_At (p : Program) (s : State) (m : MethodId) (meth : Method) (c : Code) (b L : Nat) (xs : Nat → Int32) : Prop :=
  p.tables.exec = Jvm.exec ∧ c.code = code ∧ meth.sig.returnType = ret ∧ c.maxLocals = 4 ∧ s.vm.findClass R_law = some m.cls ∧ (∀ w ∈ lw_tbl, w.before #[Value.ref b] s = true) ∧ va_X b L xs s s.heap ∧ b < s.heap.size ∧ meth.locks = false ∧ (Jvm.Cond.and given_1 narrow_1).before #[Value.ref b] s = true
/-- what holds in the law: its entry, the tables' numbers, the base -/
def lw_C (p : Program) (s : State) (m : MethodId) (meth : Method) (c : Code) (b L : Nat) (xs : Nat → Int32) (g : xG) : Prop := lw_At p s m meth c b L xs ∧ va_K g.1 xcl (xTy g) s ∧ xNw s ∧ g.2.2 = s.heap.size
theorem lw_Cw {p : Program} {s : State} {m : MethodId} {meth : Method} {c : Code} {b L : Nat} {xs : Nat → Int32} {g : xG} (C : lw_C p s m meth c b L xs g) : ∀ w ∈ xWd, w.before #[Value.ref b] s = true := fun w hw => C.1.2.2.2.2.2.1 w (List.mem_filter.mp hw).1
theorem w_callV {p : Program} {l : Launch} {e : Env} {s : State} {m : MethodId} {below : List Frame} {meth : Method} {c : Code} {b L : Nat} {xs : Nat → Int32} {g : xG} {M' : xM} {d' mc' ms' cu su pc n q ci bb hh i : Nat} {h : xHp} {H : Heap} {locs : List Loc} {ls : Array Slot} {av fs rest st0 : List Value} {Q' : xQt} {Qf : State → Prop} (C : lw_C p s m meth c b L xs g) (hM : xat xHs bb = some M'.1) (hkind : M'.1.2.2.2.2.2.1 = 1) (hlink : xat1 hh (.methodLink R_law i M'.1.2.1) = true) (hP : xP g n h H) (hS : va_S (xA g) s.heap H locs) (hq : h q = some (.inr (ci, fs))) (hci : M'.1.1 = ci) (hC : xCall M' d' mc' ms' (.ref q :: av) n h Q') (hlen : av.length = M'.1.2.2.2.2.2.2) (hsize : ls.size = 4) (hst : st0 = (av.map (xr g.2.2)).reverse ++ .ref (g.2.2 + q) :: rest) (hdc : decode code pc = .ok (.invokevirtual i, 3)) (hW : (rest.map fun v => v.category).sum ≤ 8) (h1 : cu + mc' ≤ 600000) (h2 : su + ms' ≤ 7302250) (hd' : d' ≤ 1000)
    (kk : ∀ (r : Option Value) (n' : Nat) (h' : xHp) (H1 : Heap) (locs1 : List Loc), Q' r n' h' → xP g n' h' H1 → va_S (xA g) s.heap H1 locs1 → W p l e room_1 s m #[Value.ref b] below meth c H1 locs1 (cu + mc') (su + ms') Qf (F0 m (pc + 3) ls ((r.map (xr g.2.2)).toList ++ rest))) : W p l e room_1 s m #[Value.ref b] below meth c H locs cu su Qf (F0 m pc ls st0) := by
  have hts := lw_Cw C
  obtain ⟨⟨hx, hb, hr, hml, hown, -, hX, hbl, hlocks, hgv⟩, hK, hN, hz⟩ := C
  obtain ⟨c1, c2, c3, c4, c5, -, -, c6⟩ := xhead hM
  obtain ⟨c7, c8, r, c9, c10⟩ := c6 hkind
  subst hci
  refine x_call (g := g) (Q' := Q') (mc := mc') (ms := ms') (rest := rest) (va_runV (As := av.map (xr g.2.2)) (b := g.2.2 + q) ⟨hx, hb, hml, hown, hts⟩ (hC l g) (cwV (ws' := xWd) M'.1.2.2.2.2.2.2 hts (xGI fun w hw => ?_) rfl rfl rfl ⟨rfl, c3.1, c3.2, c4⟩ ⟨by show d' + 1 ≤ 2048; omega, by show 8 + (M'.1.2.2.2.1 + 11) + 80 * d' ≤ 84000; omega⟩) ⟨xPc_blind g _ n h, ?_, fun U hU hWm => ⟨by simp [xr], by rw [hU]; exact hP, va_K.moved hWm.alike hK, xNw_moved hWm hN⟩⟩ rfl (by rw [List.length_map]; exact hlen) hsize hst ?_ hdc ⟨h1, h2⟩) hS kk
  · simp only [wsV, List.mem_append, List.mem_cons, List.not_mem_nil, or_false] at hw
    rcases hw with (rfl | rfl | rfl | rfl) | hw
    · exact xat1_mem hlink
    · exact c7
    · exact c8
    · exact c2
    · rcases List.mem_cons.mp hw with rfl | hw
      · exact c1
      · exact hw
  · obtain ⟨cell, k1, k2, k3⟩ := va_recv hK hP.2.2 c9 (hP.get hq)
    exact ⟨cell, k1, k2, by rw [← c10]; exact k3⟩
  · show 2 * 0 + _ ≤ 8
    omega
theorem w_callI {p : Program} {l : Launch} {e : Env} {s : State} {m : MethodId} {below : List Frame} {meth : Method} {c : Code} {b L : Nat} {xs : Nat → Int32} {g : xG} {M' : xM} {d' mc' ms' cu su pc n q bb hh i : Nat} {h : xHp} {H : Heap} {locs : List Loc} {ls : Array Slot} {rest : List Value} {Q' : xQt} {Qf : State → Prop} (C : lw_C p s m meth c b L xs g) (hM : xat xHs bb = some M'.1) (hkind : M'.1.2.2.2.2.2.1 = 2) (hnp : M'.1.2.2.2.2.2.2 = 0) (hlink : xat1 hh (.methodLink R_law i M'.1.2.1) = true) (hP : xP g n h H) (hS : va_S (xA g) s.heap H locs) (hC : xCall M' d' mc' ms' [.ref q] n h Q') (hsize : ls.size = 4) (hdc : decode code pc = .ok (.invokespecial i, 3)) (hW : (rest.map fun v => v.category).sum ≤ 8) (h1 : cu + mc' ≤ 600000) (h2 : su + ms' ≤ 7302250) (hd' : d' ≤ 1000)
    (kk : ∀ (r : Option Value) (n' : Nat) (h' : xHp) (H1 : Heap) (locs1 : List Loc), Q' r n' h' → xP g n' h' H1 → va_S (xA g) s.heap H1 locs1 → W p l e room_1 s m #[Value.ref b] below meth c H1 locs1 (cu + mc') (su + ms') Qf (F0 m (pc + 3) ls ((r.map (xr g.2.2)).toList ++ rest))) : W p l e room_1 s m #[Value.ref b] below meth c H locs cu su Qf (F0 m pc ls (.ref (g.2.2 + q) :: rest)) := by
  have hts := lw_Cw C
  obtain ⟨⟨hx, hb, hr, hml, hown, -, hX, hbl, hlocks, hgv⟩, hK, hN, hz⟩ := C
  obtain ⟨c1, c2, c3, c4, c5, -, c6, -⟩ := xhead hM
  obtain ⟨c7, c8, c9⟩ := c6 hkind
  rw [hnp] at c4
  have hws : xws M' = Cond.code M'.1.2.1 M'.1.2.2.1 M'.1.2.2.2.1 none :: xWd := by unfold xws; rw [c9]
  have hgi : GoodIn xWd (xws M') := xGI fun w hw => by
    rcases List.mem_cons.mp hw with rfl | hw
    · exact c1
    · exact hw
  refine x_call (g := g) (Q' := Q') (mc := mc') (ms := ms') (rest := rest) (va_runI (As := []) (b := g.2.2 + q) ⟨hx, hb, hml, hown, hts⟩ (hC l g) (cwI (ws' := xWd) 0 hts hgi hws rfl rfl (hts _ c2) (hts _ (xat1_mem hlink)) (hts _ c7) c8 ⟨c3.1, c3.2, c4⟩ ⟨by show d' + 1 ≤ 2048; omega, by show 8 + (M'.1.2.2.2.1 + 11) + 80 * d' ≤ 84000; omega⟩) ⟨xPc_blind g _ n h, fun U hU hWm => ⟨rfl, by rw [hU]; exact hP, va_K.moved hWm.alike hK, xNw_moved hWm hN⟩⟩ rfl rfl hsize rfl ?_ hdc ⟨h1, h2⟩) hS kk
  show 2 * 0 + _ ≤ 8
  omega
/-- class and reference, one behind the other, answer alike -/
def xSame {α : Type} (MC MM : xM) (mk : α → Value) (Rel : xHp → Prop) (N : Nat) (av : List Value) (h : xHp) : Prop :=
  xCall MC 100 0 0 (.ref 0 :: av) N h (fun r n' h' => n' = N ∧ (∃ fs, h' 64 = some (.inr (6, fs))) ∧ ∃ v, r = some (mk v) ∧ xCall MM 100 0 0 (.ref 64 :: av) N h' (fun r' n'' h'' => r' = some (mk v) ∧ n'' = N ∧ Rel h''))
def xSameI (MC MM : xM) (Rel : xHp → Prop) (N : Nat) (av : List Value) (h : xHp) : Prop := xSame MC MM Value.int Rel N av h
def xSameL (MC MM : xM) (Rel : xHp → Prop) (N : Nat) (av : List Value) (h : xHp) : Prop := xSame MC MM Value.long Rel N av h
theorem lw_case0 {p : Program} {l : Launch} {e : Env} {s : State} {m : MethodId} {below : List Frame} {meth : Method} {c : Code} {b L : Nat} {xs : Nat → Int32} {g : xG} {Rel : xHp → Prop} {N cu su : Nat} {x3 : Int32} {h : xHp} {H : Heap} {locs : List Loc} {ls : Array Slot} {Qf : State → Prop} (C : lw_C p s m meth c b L xs g) (hin : ∀ j : Nat, j ≤ 4 → vp_in (x3 + Int32.ofNat j) L) (h0 : ∃ fs, h 0 = some (.inr (5, fs))) (hcu : cu ≤ 600000) (hsu : su ≤ 7302250) (hR : xSameI xmX5_point xmX6_point Rel N [.int (xs (x3 + 1).toNatClampNeg), .int (xs (x3 + 2).toNatClampNeg), .int (xs (x3 + 3).toNatClampNeg)] h) (hP : xP g N h H) (hS : va_S (xA g) s.heap H locs) (hl : lv_has ls 4 [(0, .ref b), (1, .ref (g.2.2 + 0)), (2, .ref (g.2.2 + 64)), (3, .int x3)])
    (kk : ∀ (h' : xHp) (H1 : Heap) (locs1 : List Loc), Rel h' → xP g N h' H1 → va_S (xA g) s.heap H1 locs1 → W p l e room_1 s m #[Value.ref b] below meth c H1 locs1 cu su Qf (F0 m 767 ls [])) : W p l e room_1 s m #[Value.ref b] below meth c H locs cu su Qf (F0 m 136 ls []) := by
  have C' := C
  obtain ⟨⟨hx, hb, hr, hml, hown, hts, hX, hbl, hlocks, hgv⟩, hK, hN, hz⟩ := C
  have hbA : ¬ (xA g) b := by unfold xA; rw [hz]; exact Nat.not_le.mpr hbl
  obtain ⟨fs0, h0⟩ := h0
  refine lv_aload_n hx hb dL_136 rfl (lv_at hl 1 rfl) ?_
  refine lv_aload_n hx hb dL_137 rfl (lv_at hl 0 rfl) ?_
  refine lv_iload_n hx hb dL_138 rfl (lv_at hl 3 rfl) ?_
  refine lv_iconst (v := 1) hx hb dL_139 (by decide) ?_
  refine lv_iadd hx hb dL_140 ?_
  refine va_sld hx hb hX hbl hbA hS (hin 1 (by decide)) dL_141 ?_
  refine lv_aload_n hx hb dL_142 rfl (lv_at hl 0 rfl) ?_
  refine lv_iload_n hx hb dL_143 rfl (lv_at hl 3 rfl) ?_
  refine lv_iconst (v := 2) hx hb dL_144 (by decide) ?_
  refine lv_iadd hx hb dL_145 ?_
  refine va_sld hx hb hX hbl hbA hS (hin 2 (by decide)) dL_146 ?_
  refine lv_aload_n hx hb dL_147 rfl (lv_at hl 0 rfl) ?_
  refine lv_iload_n hx hb dL_148 rfl (lv_at hl 3 rfl) ?_
  refine lv_iconst (v := 3) hx hb dL_149 (by decide) ?_
  refine lv_iadd hx hb dL_150 ?_
  refine va_sld hx hb hX hbl hbA hS (hin 3 (by decide)) dL_151 ?_
  refine w_callV (M' := xmX5_point) (bb := 54) (hh := 243) (av := [.int (xs (x3 + 1).toNatClampNeg), .int (xs (x3 + 2).toNatClampNeg), .int (xs (x3 + 3).toNatClampNeg)]) (rest := []) C' rfl rfl (by decide +kernel) hP hS h0 rfl hR rfl hl.1 rfl dL_152 (by decide) hcu hsu (by decide) ?_
  rintro r n1 h1 H1 locs1 ⟨rfl, ⟨fs64, h64⟩, v, rfl, hR2⟩ hP1 hS1
  have hS := hS1
  refine lv_aload_n hx hb dL_155 rfl (lv_at hl 2 rfl) ?_
  refine lv_aload_n hx hb dL_156 rfl (lv_at hl 0 rfl) ?_
  refine lv_iload_n hx hb dL_157 rfl (lv_at hl 3 rfl) ?_
  refine lv_iconst (v := 1) hx hb dL_158 (by decide) ?_
  refine lv_iadd hx hb dL_159 ?_
  refine va_sld hx hb hX hbl hbA hS (hin 1 (by decide)) dL_160 ?_
  refine lv_aload_n hx hb dL_161 rfl (lv_at hl 0 rfl) ?_
  refine lv_iload_n hx hb dL_162 rfl (lv_at hl 3 rfl) ?_
  refine lv_iconst (v := 2) hx hb dL_163 (by decide) ?_
  refine lv_iadd hx hb dL_164 ?_
  refine va_sld hx hb hX hbl hbA hS (hin 2 (by decide)) dL_165 ?_
  refine lv_aload_n hx hb dL_166 rfl (lv_at hl 0 rfl) ?_
  refine lv_iload_n hx hb dL_167 rfl (lv_at hl 3 rfl) ?_
  refine lv_iconst (v := 3) hx hb dL_168 (by decide) ?_
  refine lv_iadd hx hb dL_169 ?_
  refine va_sld hx hb hX hbl hbA hS (hin 3 (by decide)) dL_170 ?_
  refine w_callV (M' := xmX6_point) (bb := 85) (hh := 693) (av := [.int (xs (x3 + 1).toNatClampNeg), .int (xs (x3 + 2).toNatClampNeg), .int (xs (x3 + 3).toNatClampNeg)]) (rest := [.int v]) C' rfl rfl (by decide +kernel) hP1 hS1 h64 rfl hR2 rfl hl.1 rfl dL_171 (Nat.le_of_ble_eq_true rfl) hcu hsu (by decide) ?_
  rintro r2 n2 h2 H2 locs2 ⟨rfl, rfl, hRel⟩ hP2 hS2
  exact lv_icmp_eq (tgt := 767) hx hb dL_174 (by decide) (fun _ => kk h2 H2 locs2 hRel hP2 hS2) (fun hne => absurd rfl hne)
theorem lw_case1 {p : Program} {l : Launch} {e : Env} {s : State} {m : MethodId} {below : List Frame} {meth : Method} {c : Code} {b L : Nat} {xs : Nat → Int32} {g : xG} {Rel : xHp → Prop} {N cu su : Nat} {x3 : Int32} {h : xHp} {H : Heap} {locs : List Loc} {ls : Array Slot} {Qf : State → Prop} (C : lw_C p s m meth c b L xs g) (hin : ∀ j : Nat, j ≤ 4 → vp_in (x3 + Int32.ofNat j) L) (h0 : ∃ fs, h 0 = some (.inr (5, fs))) (hcu : cu ≤ 600000) (hsu : su ≤ 7302250) (hR : xSameI xmX5_clear xmX6_clear Rel N [] h) (hP : xP g N h H) (hS : va_S (xA g) s.heap H locs) (hl : lv_has ls 4 [(0, .ref b), (1, .ref (g.2.2 + 0)), (2, .ref (g.2.2 + 64)), (3, .int x3)])
    (kk : ∀ (h' : xHp) (H1 : Heap) (locs1 : List Loc), Rel h' → xP g N h' H1 → va_S (xA g) s.heap H1 locs1 → W p l e room_1 s m #[Value.ref b] below meth c H1 locs1 cu su Qf (F0 m 767 ls [])) : W p l e room_1 s m #[Value.ref b] below meth c H locs cu su Qf (F0 m 179 ls []) := by
  have C' := C
  obtain ⟨⟨hx, hb, hr, hml, hown, hts, hX, hbl, hlocks, hgv⟩, hK, hN, hz⟩ := C
  have hbA : ¬ (xA g) b := by unfold xA; rw [hz]; exact Nat.not_le.mpr hbl
  obtain ⟨fs0, h0⟩ := h0
  refine lv_aload_n hx hb dL_179 rfl (lv_at hl 1 rfl) ?_
  refine w_callV (M' := xmX5_clear) (bb := 55) (hh := 358) (av := []) (rest := []) C' rfl rfl (by decide +kernel) hP hS h0 rfl hR rfl hl.1 rfl dL_180 (by decide) hcu hsu (by decide) ?_
  rintro r n1 h1 H1 locs1 ⟨rfl, ⟨fs64, h64⟩, v, rfl, hR2⟩ hP1 hS1
  have hS := hS1
  refine lv_aload_n hx hb dL_183 rfl (lv_at hl 2 rfl) ?_
  refine w_callV (M' := xmX6_clear) (bb := 86) (hh := 700) (av := []) (rest := [.int v]) C' rfl rfl (by decide +kernel) hP1 hS1 h64 rfl hR2 rfl hl.1 rfl dL_184 (Nat.le_of_ble_eq_true rfl) hcu hsu (by decide) ?_
  rintro r2 n2 h2 H2 locs2 ⟨rfl, rfl, hRel⟩ hP2 hS2
  exact lv_icmp_eq (tgt := 767) hx hb dL_187 (by decide) (fun _ => kk h2 H2 locs2 hRel hP2 hS2) (fun hne => absurd rfl hne)
theorem lw_case2 {p : Program} {l : Launch} {e : Env} {s : State} {m : MethodId} {below : List Frame} {meth : Method} {c : Code} {b L : Nat} {xs : Nat → Int32} {g : xG} {Rel : xHp → Prop} {N cu su : Nat} {x3 : Int32} {h : xHp} {H : Heap} {locs : List Loc} {ls : Array Slot} {Qf : State → Prop} (C : lw_C p s m meth c b L xs g) (hin : ∀ j : Nat, j ≤ 4 → vp_in (x3 + Int32.ofNat j) L) (h0 : ∃ fs, h 0 = some (.inr (5, fs))) (hcu : cu ≤ 600000) (hsu : su ≤ 7302250) (hR : xSameI xmX5_flat xmX6_flat Rel N [] h) (hP : xP g N h H) (hS : va_S (xA g) s.heap H locs) (hl : lv_has ls 4 [(0, .ref b), (1, .ref (g.2.2 + 0)), (2, .ref (g.2.2 + 64)), (3, .int x3)])
    (kk : ∀ (h' : xHp) (H1 : Heap) (locs1 : List Loc), Rel h' → xP g N h' H1 → va_S (xA g) s.heap H1 locs1 → W p l e room_1 s m #[Value.ref b] below meth c H1 locs1 cu su Qf (F0 m 767 ls [])) : W p l e room_1 s m #[Value.ref b] below meth c H locs cu su Qf (F0 m 192 ls []) := by
  have C' := C
  obtain ⟨⟨hx, hb, hr, hml, hown, hts, hX, hbl, hlocks, hgv⟩, hK, hN, hz⟩ := C
  have hbA : ¬ (xA g) b := by unfold xA; rw [hz]; exact Nat.not_le.mpr hbl
  obtain ⟨fs0, h0⟩ := h0
  refine lv_aload_n hx hb dL_192 rfl (lv_at hl 1 rfl) ?_
  refine w_callV (M' := xmX5_flat) (bb := 57) (hh := 362) (av := []) (rest := []) C' rfl rfl (by decide +kernel) hP hS h0 rfl hR rfl hl.1 rfl dL_193 (by decide) hcu hsu (by decide) ?_
  rintro r n1 h1 H1 locs1 ⟨rfl, ⟨fs64, h64⟩, v, rfl, hR2⟩ hP1 hS1
  have hS := hS1
  refine lv_aload_n hx hb dL_196 rfl (lv_at hl 2 rfl) ?_
  refine w_callV (M' := xmX6_flat) (bb := 97) (hh := 704) (av := []) (rest := [.int v]) C' rfl rfl (by decide +kernel) hP1 hS1 h64 rfl hR2 rfl hl.1 rfl dL_197 (Nat.le_of_ble_eq_true rfl) hcu hsu (by decide) ?_
  rintro r2 n2 h2 H2 locs2 ⟨rfl, rfl, hRel⟩ hP2 hS2
  exact lv_icmp_eq (tgt := 767) hx hb dL_200 (by decide) (fun _ => kk h2 H2 locs2 hRel hP2 hS2) (fun hne => absurd rfl hne)
theorem lw_case3 {p : Program} {l : Launch} {e : Env} {s : State} {m : MethodId} {below : List Frame} {meth : Method} {c : Code} {b L : Nat} {xs : Nat → Int32} {g : xG} {Rel : xHp → Prop} {N cu su : Nat} {x3 : Int32} {h : xHp} {H : Heap} {locs : List Loc} {ls : Array Slot} {Qf : State → Prop} (C : lw_C p s m meth c b L xs g) (hin : ∀ j : Nat, j ≤ 4 → vp_in (x3 + Int32.ofNat j) L) (h0 : ∃ fs, h 0 = some (.inr (5, fs))) (hcu : cu ≤ 600000) (hsu : su ≤ 7302250) (hR : xSameI xmX5_corners xmX6_corners Rel N [] h) (hP : xP g N h H) (hS : va_S (xA g) s.heap H locs) (hl : lv_has ls 4 [(0, .ref b), (1, .ref (g.2.2 + 0)), (2, .ref (g.2.2 + 64)), (3, .int x3)])
    (kk : ∀ (h' : xHp) (H1 : Heap) (locs1 : List Loc), Rel h' → xP g N h' H1 → va_S (xA g) s.heap H1 locs1 → W p l e room_1 s m #[Value.ref b] below meth c H1 locs1 cu su Qf (F0 m 767 ls [])) : W p l e room_1 s m #[Value.ref b] below meth c H locs cu su Qf (F0 m 205 ls []) := by
  have C' := C
  obtain ⟨⟨hx, hb, hr, hml, hown, hts, hX, hbl, hlocks, hgv⟩, hK, hN, hz⟩ := C
  have hbA : ¬ (xA g) b := by unfold xA; rw [hz]; exact Nat.not_le.mpr hbl
  obtain ⟨fs0, h0⟩ := h0
  refine lv_aload_n hx hb dL_205 rfl (lv_at hl 1 rfl) ?_
  refine w_callV (M' := xmX5_corners) (bb := 58) (hh := 370) (av := []) (rest := []) C' rfl rfl (by decide +kernel) hP hS h0 rfl hR rfl hl.1 rfl dL_206 (by decide) hcu hsu (by decide) ?_
  rintro r n1 h1 H1 locs1 ⟨rfl, ⟨fs64, h64⟩, v, rfl, hR2⟩ hP1 hS1
  have hS := hS1
  refine lv_aload_n hx hb dL_209 rfl (lv_at hl 2 rfl) ?_
  refine w_callV (M' := xmX6_corners) (bb := 100) (hh := 747) (av := []) (rest := [.int v]) C' rfl rfl (by decide +kernel) hP1 hS1 h64 rfl hR2 rfl hl.1 rfl dL_210 (Nat.le_of_ble_eq_true rfl) hcu hsu (by decide) ?_
  rintro r2 n2 h2 H2 locs2 ⟨rfl, rfl, hRel⟩ hP2 hS2
  exact lv_icmp_eq (tgt := 767) hx hb dL_213 (by decide) (fun _ => kk h2 H2 locs2 hRel hP2 hS2) (fun hne => absurd rfl hne)
theorem lw_case4 {p : Program} {l : Launch} {e : Env} {s : State} {m : MethodId} {below : List Frame} {meth : Method} {c : Code} {b L : Nat} {xs : Nat → Int32} {g : xG} {Rel : xHp → Prop} {N cu su : Nat} {x3 : Int32} {h : xHp} {H : Heap} {locs : List Loc} {ls : Array Slot} {Qf : State → Prop} (C : lw_C p s m meth c b L xs g) (hin : ∀ j : Nat, j ≤ 4 → vp_in (x3 + Int32.ofNat j) L) (h0 : ∃ fs, h 0 = some (.inr (5, fs))) (hcu : cu ≤ 600000) (hsu : su ≤ 7302250) (hR : xSameI xmX5_edges xmX6_edges Rel N [] h) (hP : xP g N h H) (hS : va_S (xA g) s.heap H locs) (hl : lv_has ls 4 [(0, .ref b), (1, .ref (g.2.2 + 0)), (2, .ref (g.2.2 + 64)), (3, .int x3)])
    (kk : ∀ (h' : xHp) (H1 : Heap) (locs1 : List Loc), Rel h' → xP g N h' H1 → va_S (xA g) s.heap H1 locs1 → W p l e room_1 s m #[Value.ref b] below meth c H1 locs1 cu su Qf (F0 m 767 ls [])) : W p l e room_1 s m #[Value.ref b] below meth c H locs cu su Qf (F0 m 218 ls []) := by
  have C' := C
  obtain ⟨⟨hx, hb, hr, hml, hown, hts, hX, hbl, hlocks, hgv⟩, hK, hN, hz⟩ := C
  have hbA : ¬ (xA g) b := by unfold xA; rw [hz]; exact Nat.not_le.mpr hbl
  obtain ⟨fs0, h0⟩ := h0
  refine lv_aload_n hx hb dL_218 rfl (lv_at hl 1 rfl) ?_
  refine w_callV (M' := xmX5_edges) (bb := 59) (hh := 374) (av := []) (rest := []) C' rfl rfl (by decide +kernel) hP hS h0 rfl hR rfl hl.1 rfl dL_219 (by decide) hcu hsu (by decide) ?_
  rintro r n1 h1 H1 locs1 ⟨rfl, ⟨fs64, h64⟩, v, rfl, hR2⟩ hP1 hS1
  have hS := hS1
  refine lv_aload_n hx hb dL_222 rfl (lv_at hl 2 rfl) ?_
  refine w_callV (M' := xmX6_edges) (bb := 101) (hh := 751) (av := []) (rest := [.int v]) C' rfl rfl (by decide +kernel) hP1 hS1 h64 rfl hR2 rfl hl.1 rfl dL_223 (Nat.le_of_ble_eq_true rfl) hcu hsu (by decide) ?_
  rintro r2 n2 h2 H2 locs2 ⟨rfl, rfl, hRel⟩ hP2 hS2
  exact lv_icmp_eq (tgt := 767) hx hb dL_226 (by decide) (fun _ => kk h2 H2 locs2 hRel hP2 hS2) (fun hne => absurd rfl hne)
theorem lw_case5 {p : Program} {l : Launch} {e : Env} {s : State} {m : MethodId} {below : List Frame} {meth : Method} {c : Code} {b L : Nat} {xs : Nat → Int32} {g : xG} {Rel : xHp → Prop} {N cu su : Nat} {x3 : Int32} {h : xHp} {H : Heap} {locs : List Loc} {ls : Array Slot} {Qf : State → Prop} (C : lw_C p s m meth c b L xs g) (hin : ∀ j : Nat, j ≤ 4 → vp_in (x3 + Int32.ofNat j) L) (h0 : ∃ fs, h 0 = some (.inr (5, fs))) (hcu : cu ≤ 600000) (hsu : su ≤ 7302250) (hR : xSameI xmX5_faces xmX6_faces Rel N [] h) (hP : xP g N h H) (hS : va_S (xA g) s.heap H locs) (hl : lv_has ls 4 [(0, .ref b), (1, .ref (g.2.2 + 0)), (2, .ref (g.2.2 + 64)), (3, .int x3)])
    (kk : ∀ (h' : xHp) (H1 : Heap) (locs1 : List Loc), Rel h' → xP g N h' H1 → va_S (xA g) s.heap H1 locs1 → W p l e room_1 s m #[Value.ref b] below meth c H1 locs1 cu su Qf (F0 m 767 ls [])) : W p l e room_1 s m #[Value.ref b] below meth c H locs cu su Qf (F0 m 231 ls []) := by
  have C' := C
  obtain ⟨⟨hx, hb, hr, hml, hown, hts, hX, hbl, hlocks, hgv⟩, hK, hN, hz⟩ := C
  have hbA : ¬ (xA g) b := by unfold xA; rw [hz]; exact Nat.not_le.mpr hbl
  obtain ⟨fs0, h0⟩ := h0
  refine lv_aload_n hx hb dL_231 rfl (lv_at hl 1 rfl) ?_
  refine w_callV (M' := xmX5_faces) (bb := 60) (hh := 378) (av := []) (rest := []) C' rfl rfl (by decide +kernel) hP hS h0 rfl hR rfl hl.1 rfl dL_232 (by decide) hcu hsu (by decide) ?_
  rintro r n1 h1 H1 locs1 ⟨rfl, ⟨fs64, h64⟩, v, rfl, hR2⟩ hP1 hS1
  have hS := hS1
  refine lv_aload_n hx hb dL_235 rfl (lv_at hl 2 rfl) ?_
  refine w_callV (M' := xmX6_faces) (bb := 102) (hh := 763) (av := []) (rest := [.int v]) C' rfl rfl (by decide +kernel) hP1 hS1 h64 rfl hR2 rfl hl.1 rfl dL_236 (Nat.le_of_ble_eq_true rfl) hcu hsu (by decide) ?_
  rintro r2 n2 h2 H2 locs2 ⟨rfl, rfl, hRel⟩ hP2 hS2
  exact lv_icmp_eq (tgt := 767) hx hb dL_239 (by decide) (fun _ => kk h2 H2 locs2 hRel hP2 hS2) (fun hne => absurd rfl hne)
theorem lw_case6 {p : Program} {l : Launch} {e : Env} {s : State} {m : MethodId} {below : List Frame} {meth : Method} {c : Code} {b L : Nat} {xs : Nat → Int32} {g : xG} {Rel : xHp → Prop} {N cu su : Nat} {x3 : Int32} {h : xHp} {H : Heap} {locs : List Loc} {ls : Array Slot} {Qf : State → Prop} (C : lw_C p s m meth c b L xs g) (hin : ∀ j : Nat, j ≤ 4 → vp_in (x3 + Int32.ofNat j) L) (h0 : ∃ fs, h 0 = some (.inr (5, fs))) (hcu : cu ≤ 600000) (hsu : su ≤ 7302250) (hR : xSameI xmX5_size xmX6_size Rel N [.int (xs (x3 + 1).toNatClampNeg)] h) (hP : xP g N h H) (hS : va_S (xA g) s.heap H locs) (hl : lv_has ls 4 [(0, .ref b), (1, .ref (g.2.2 + 0)), (2, .ref (g.2.2 + 64)), (3, .int x3)])
    (kk : ∀ (h' : xHp) (H1 : Heap) (locs1 : List Loc), Rel h' → xP g N h' H1 → va_S (xA g) s.heap H1 locs1 → W p l e room_1 s m #[Value.ref b] below meth c H1 locs1 cu su Qf (F0 m 767 ls [])) : W p l e room_1 s m #[Value.ref b] below meth c H locs cu su Qf (F0 m 244 ls []) := by
  have C' := C
  obtain ⟨⟨hx, hb, hr, hml, hown, hts, hX, hbl, hlocks, hgv⟩, hK, hN, hz⟩ := C
  have hbA : ¬ (xA g) b := by unfold xA; rw [hz]; exact Nat.not_le.mpr hbl
  obtain ⟨fs0, h0⟩ := h0
  refine lv_aload_n hx hb dL_244 rfl (lv_at hl 1 rfl) ?_
  refine lv_aload_n hx hb dL_245 rfl (lv_at hl 0 rfl) ?_
  refine lv_iload_n hx hb dL_246 rfl (lv_at hl 3 rfl) ?_
  refine lv_iconst (v := 1) hx hb dL_247 (by decide) ?_
  refine lv_iadd hx hb dL_248 ?_
  refine va_sld hx hb hX hbl hbA hS (hin 1 (by decide)) dL_249 ?_
  refine w_callV (M' := xmX5_size) (bb := 61) (hh := 382) (av := [.int (xs (x3 + 1).toNatClampNeg)]) (rest := []) C' rfl rfl (by decide +kernel) hP hS h0 rfl hR rfl hl.1 rfl dL_250 (by decide) hcu hsu (by decide) ?_
  rintro r n1 h1 H1 locs1 ⟨rfl, ⟨fs64, h64⟩, v, rfl, hR2⟩ hP1 hS1
  have hS := hS1
  refine lv_aload_n hx hb dL_253 rfl (lv_at hl 2 rfl) ?_
  refine lv_aload_n hx hb dL_254 rfl (lv_at hl 0 rfl) ?_
  refine lv_iload_n hx hb dL_255 rfl (lv_at hl 3 rfl) ?_
  refine lv_iconst (v := 1) hx hb dL_256 (by decide) ?_
  refine lv_iadd hx hb dL_257 ?_
  refine va_sld hx hb hX hbl hbA hS (hin 1 (by decide)) dL_258 ?_
  refine w_callV (M' := xmX6_size) (bb := 103) (hh := 767) (av := [.int (xs (x3 + 1).toNatClampNeg)]) (rest := [.int v]) C' rfl rfl (by decide +kernel) hP1 hS1 h64 rfl hR2 rfl hl.1 rfl dL_259 (Nat.le_of_ble_eq_true rfl) hcu hsu (by decide) ?_
  rintro r2 n2 h2 H2 locs2 ⟨rfl, rfl, hRel⟩ hP2 hS2
  exact lv_icmp_eq (tgt := 767) hx hb dL_262 (by decide) (fun _ => kk h2 H2 locs2 hRel hP2 hS2) (fun hne => absurd rfl hne)
theorem lw_case7 {p : Program} {l : Launch} {e : Env} {s : State} {m : MethodId} {below : List Frame} {meth : Method} {c : Code} {b L : Nat} {xs : Nat → Int32} {g : xG} {Rel : xHp → Prop} {N cu su : Nat} {x3 : Int32} {h : xHp} {H : Heap} {locs : List Loc} {ls : Array Slot} {Qf : State → Prop} (C : lw_C p s m meth c b L xs g) (hin : ∀ j : Nat, j ≤ 4 → vp_in (x3 + Int32.ofNat j) L) (h0 : ∃ fs, h 0 = some (.inr (5, fs))) (hcu : cu ≤ 600000) (hsu : su ≤ 7302250) (hR : xSameI xmX5_at xmX6_at Rel N [.int (xs (x3 + 1).toNatClampNeg), .int (xs (x3 + 2).toNatClampNeg)] h) (hP : xP g N h H) (hS : va_S (xA g) s.heap H locs) (hl : lv_has ls 4 [(0, .ref b), (1, .ref (g.2.2 + 0)), (2, .ref (g.2.2 + 64)), (3, .int x3)])
    (kk : ∀ (h' : xHp) (H1 : Heap) (locs1 : List Loc), Rel h' → xP g N h' H1 → va_S (xA g) s.heap H1 locs1 → W p l e room_1 s m #[Value.ref b] below meth c H1 locs1 cu su Qf (F0 m 767 ls [])) : W p l e room_1 s m #[Value.ref b] below meth c H locs cu su Qf (F0 m 267 ls []) := by
  have C' := C
  obtain ⟨⟨hx, hb, hr, hml, hown, hts, hX, hbl, hlocks, hgv⟩, hK, hN, hz⟩ := C
  have hbA : ¬ (xA g) b := by unfold xA; rw [hz]; exact Nat.not_le.mpr hbl
  obtain ⟨fs0, h0⟩ := h0
  refine lv_aload_n hx hb dL_267 rfl (lv_at hl 1 rfl) ?_
  refine lv_aload_n hx hb dL_268 rfl (lv_at hl 0 rfl) ?_
  refine lv_iload_n hx hb dL_269 rfl (lv_at hl 3 rfl) ?_
  refine lv_iconst (v := 1) hx hb dL_270 (by decide) ?_
  refine lv_iadd hx hb dL_271 ?_
  refine va_sld hx hb hX hbl hbA hS (hin 1 (by decide)) dL_272 ?_
  refine lv_aload_n hx hb dL_273 rfl (lv_at hl 0 rfl) ?_
  refine lv_iload_n hx hb dL_274 rfl (lv_at hl 3 rfl) ?_
  refine lv_iconst (v := 2) hx hb dL_275 (by decide) ?_
  refine lv_iadd hx hb dL_276 ?_
  refine va_sld hx hb hX hbl hbA hS (hin 2 (by decide)) dL_277 ?_
  refine w_callV (M' := xmX5_at) (bb := 62) (hh := 390) (av := [.int (xs (x3 + 1).toNatClampNeg), .int (xs (x3 + 2).toNatClampNeg)]) (rest := []) C' rfl rfl (by decide +kernel) hP hS h0 rfl hR rfl hl.1 rfl dL_278 (by decide) hcu hsu (by decide) ?_
  rintro r n1 h1 H1 locs1 ⟨rfl, ⟨fs64, h64⟩, v, rfl, hR2⟩ hP1 hS1
  have hS := hS1
  refine lv_aload_n hx hb dL_281 rfl (lv_at hl 2 rfl) ?_
  refine lv_aload_n hx hb dL_282 rfl (lv_at hl 0 rfl) ?_
  refine lv_iload_n hx hb dL_283 rfl (lv_at hl 3 rfl) ?_
  refine lv_iconst (v := 1) hx hb dL_284 (by decide) ?_
  refine lv_iadd hx hb dL_285 ?_
  refine va_sld hx hb hX hbl hbA hS (hin 1 (by decide)) dL_286 ?_
  refine lv_aload_n hx hb dL_287 rfl (lv_at hl 0 rfl) ?_
  refine lv_iload_n hx hb dL_288 rfl (lv_at hl 3 rfl) ?_
  refine lv_iconst (v := 2) hx hb dL_289 (by decide) ?_
  refine lv_iadd hx hb dL_290 ?_
  refine va_sld hx hb hX hbl hbA hS (hin 2 (by decide)) dL_291 ?_
  refine w_callV (M' := xmX6_at) (bb := 104) (hh := 771) (av := [.int (xs (x3 + 1).toNatClampNeg), .int (xs (x3 + 2).toNatClampNeg)]) (rest := [.int v]) C' rfl rfl (by decide +kernel) hP1 hS1 h64 rfl hR2 rfl hl.1 rfl dL_292 (Nat.le_of_ble_eq_true rfl) hcu hsu (by decide) ?_
  rintro r2 n2 h2 H2 locs2 ⟨rfl, rfl, hRel⟩ hP2 hS2
  exact lv_icmp_eq (tgt := 767) hx hb dL_295 (by decide) (fun _ => kk h2 H2 locs2 hRel hP2 hS2) (fun hne => absurd rfl hne)
theorem lw_case8 {p : Program} {l : Launch} {e : Env} {s : State} {m : MethodId} {below : List Frame} {meth : Method} {c : Code} {b L : Nat} {xs : Nat → Int32} {g : xG} {Rel : xHp → Prop} {N cu su : Nat} {x3 : Int32} {h : xHp} {H : Heap} {locs : List Loc} {ls : Array Slot} {Qf : State → Prop} (C : lw_C p s m meth c b L xs g) (hin : ∀ j : Nat, j ≤ 4 → vp_in (x3 + Int32.ofNat j) L) (h0 : ∃ fs, h 0 = some (.inr (5, fs))) (hcu : cu ≤ 600000) (hsu : su ≤ 7302250) (hR : xSameL xmX5_normal xmX6_normal Rel N [.int (xs (x3 + 1).toNatClampNeg), .int (xs (x3 + 2).toNatClampNeg)] h) (hP : xP g N h H) (hS : va_S (xA g) s.heap H locs) (hl : lv_has ls 4 [(0, .ref b), (1, .ref (g.2.2 + 0)), (2, .ref (g.2.2 + 64)), (3, .int x3)])
    (kk : ∀ (h' : xHp) (H1 : Heap) (locs1 : List Loc), Rel h' → xP g N h' H1 → va_S (xA g) s.heap H1 locs1 → W p l e room_1 s m #[Value.ref b] below meth c H1 locs1 cu su Qf (F0 m 767 ls [])) : W p l e room_1 s m #[Value.ref b] below meth c H locs cu su Qf (F0 m 300 ls []) := by
  have C' := C
  obtain ⟨⟨hx, hb, hr, hml, hown, hts, hX, hbl, hlocks, hgv⟩, hK, hN, hz⟩ := C
  have hbA : ¬ (xA g) b := by unfold xA; rw [hz]; exact Nat.not_le.mpr hbl
  obtain ⟨fs0, h0⟩ := h0
  refine lv_aload_n hx hb dL_300 rfl (lv_at hl 1 rfl) ?_
  refine lv_aload_n hx hb dL_301 rfl (lv_at hl 0 rfl) ?_
  refine lv_iload_n hx hb dL_302 rfl (lv_at hl 3 rfl) ?_
  refine lv_iconst (v := 1) hx hb dL_303 (by decide) ?_
  refine lv_iadd hx hb dL_304 ?_
  refine va_sld hx hb hX hbl hbA hS (hin 1 (by decide)) dL_305 ?_
  refine lv_aload_n hx hb dL_306 rfl (lv_at hl 0 rfl) ?_
  refine lv_iload_n hx hb dL_307 rfl (lv_at hl 3 rfl) ?_
  refine lv_iconst (v := 2) hx hb dL_308 (by decide) ?_
  refine lv_iadd hx hb dL_309 ?_
  refine va_sld hx hb hX hbl hbA hS (hin 2 (by decide)) dL_310 ?_
  refine w_callV (M' := xmX5_normal) (bb := 63) (hh := 394) (av := [.int (xs (x3 + 1).toNatClampNeg), .int (xs (x3 + 2).toNatClampNeg)]) (rest := []) C' rfl rfl (by decide +kernel) hP hS h0 rfl hR rfl hl.1 rfl dL_311 (by decide) hcu hsu (by decide) ?_
  rintro r n1 h1 H1 locs1 ⟨rfl, ⟨fs64, h64⟩, v, rfl, hR2⟩ hP1 hS1
  have hS := hS1
  refine lv_aload_n hx hb dL_314 rfl (lv_at hl 2 rfl) ?_
  refine lv_aload_n hx hb dL_315 rfl (lv_at hl 0 rfl) ?_
  refine lv_iload_n hx hb dL_316 rfl (lv_at hl 3 rfl) ?_
  refine lv_iconst (v := 1) hx hb dL_317 (by decide) ?_
  refine lv_iadd hx hb dL_318 ?_
  refine va_sld hx hb hX hbl hbA hS (hin 1 (by decide)) dL_319 ?_
  refine lv_aload_n hx hb dL_320 rfl (lv_at hl 0 rfl) ?_
  refine lv_iload_n hx hb dL_321 rfl (lv_at hl 3 rfl) ?_
  refine lv_iconst (v := 2) hx hb dL_322 (by decide) ?_
  refine lv_iadd hx hb dL_323 ?_
  refine va_sld hx hb hX hbl hbA hS (hin 2 (by decide)) dL_324 ?_
  refine w_callV (M' := xmX6_normal) (bb := 105) (hh := 775) (av := [.int (xs (x3 + 1).toNatClampNeg), .int (xs (x3 + 2).toNatClampNeg)]) (rest := [.long v]) C' rfl rfl (by decide +kernel) hP1 hS1 h64 rfl hR2 rfl hl.1 rfl dL_325 (Nat.le_of_ble_eq_true rfl) hcu hsu (by decide) ?_
  rintro r2 n2 h2 H2 locs2 ⟨rfl, rfl, hRel⟩ hP2 hS2
  refine W.lcmp hx hb dL_328 ?_
  exact lv_if_eq (tgt := 767) hx hb dL_329 (by decide) (fun _ => kk h2 H2 locs2 hRel hP2 hS2) (fun hne => absurd (by simp [lg_cmp]) hne)
theorem lw_case9 {p : Program} {l : Launch} {e : Env} {s : State} {m : MethodId} {below : List Frame} {meth : Method} {c : Code} {b L : Nat} {xs : Nat → Int32} {g : xG} {Rel : xHp → Prop} {N cu su : Nat} {x3 : Int32} {h : xHp} {H : Heap} {locs : List Loc} {ls : Array Slot} {Qf : State → Prop} (C : lw_C p s m meth c b L xs g) (hin : ∀ j : Nat, j ≤ 4 → vp_in (x3 + Int32.ofNat j) L) (h0 : ∃ fs, h 0 = some (.inr (5, fs))) (hcu : cu ≤ 600000) (hsu : su ≤ 7302250) (hR : xSameL xmX5_volume xmX6_volume Rel N [] h) (hP : xP g N h H) (hS : va_S (xA g) s.heap H locs) (hl : lv_has ls 4 [(0, .ref b), (1, .ref (g.2.2 + 0)), (2, .ref (g.2.2 + 64)), (3, .int x3)])
    (kk : ∀ (h' : xHp) (H1 : Heap) (locs1 : List Loc), Rel h' → xP g N h' H1 → va_S (xA g) s.heap H1 locs1 → W p l e room_1 s m #[Value.ref b] below meth c H1 locs1 cu su Qf (F0 m 767 ls [])) : W p l e room_1 s m #[Value.ref b] below meth c H locs cu su Qf (F0 m 334 ls []) := by
  have C' := C
  obtain ⟨⟨hx, hb, hr, hml, hown, hts, hX, hbl, hlocks, hgv⟩, hK, hN, hz⟩ := C
  have hbA : ¬ (xA g) b := by unfold xA; rw [hz]; exact Nat.not_le.mpr hbl
  obtain ⟨fs0, h0⟩ := h0
  refine lv_aload_n hx hb dL_334 rfl (lv_at hl 1 rfl) ?_
  refine w_callV (M' := xmX5_volume) (bb := 64) (hh := 399) (av := []) (rest := []) C' rfl rfl (by decide +kernel) hP hS h0 rfl hR rfl hl.1 rfl dL_335 (by decide) hcu hsu (by decide) ?_
  rintro r n1 h1 H1 locs1 ⟨rfl, ⟨fs64, h64⟩, v, rfl, hR2⟩ hP1 hS1
  have hS := hS1
  refine lv_aload_n hx hb dL_338 rfl (lv_at hl 2 rfl) ?_
  refine w_callV (M' := xmX6_volume) (bb := 108) (hh := 780) (av := []) (rest := [.long v]) C' rfl rfl (by decide +kernel) hP1 hS1 h64 rfl hR2 rfl hl.1 rfl dL_339 (Nat.le_of_ble_eq_true rfl) hcu hsu (by decide) ?_
  rintro r2 n2 h2 H2 locs2 ⟨rfl, rfl, hRel⟩ hP2 hS2
  refine W.lcmp hx hb dL_342 ?_
  exact lv_if_eq (tgt := 767) hx hb dL_343 (by decide) (fun _ => kk h2 H2 locs2 hRel hP2 hS2) (fun hne => absurd (by simp [lg_cmp]) hne)
theorem lw_case10 {p : Program} {l : Launch} {e : Env} {s : State} {m : MethodId} {below : List Frame} {meth : Method} {c : Code} {b L : Nat} {xs : Nat → Int32} {g : xG} {Rel : xHp → Prop} {N cu su : Nat} {x3 : Int32} {h : xHp} {H : Heap} {locs : List Loc} {ls : Array Slot} {Qf : State → Prop} (C : lw_C p s m meth c b L xs g) (hin : ∀ j : Nat, j ≤ 4 → vp_in (x3 + Int32.ofNat j) L) (h0 : ∃ fs, h 0 = some (.inr (5, fs))) (hcu : cu ≤ 600000) (hsu : su ≤ 7302250) (hR : xSameL xmX5_middle xmX6_middle Rel N [.int (xs (x3 + 1).toNatClampNeg), .int (xs (x3 + 2).toNatClampNeg)] h) (hP : xP g N h H) (hS : va_S (xA g) s.heap H locs) (hl : lv_has ls 4 [(0, .ref b), (1, .ref (g.2.2 + 0)), (2, .ref (g.2.2 + 64)), (3, .int x3)])
    (kk : ∀ (h' : xHp) (H1 : Heap) (locs1 : List Loc), Rel h' → xP g N h' H1 → va_S (xA g) s.heap H1 locs1 → W p l e room_1 s m #[Value.ref b] below meth c H1 locs1 cu su Qf (F0 m 767 ls [])) : W p l e room_1 s m #[Value.ref b] below meth c H locs cu su Qf (F0 m 348 ls []) := by
  have C' := C
  obtain ⟨⟨hx, hb, hr, hml, hown, hts, hX, hbl, hlocks, hgv⟩, hK, hN, hz⟩ := C
  have hbA : ¬ (xA g) b := by unfold xA; rw [hz]; exact Nat.not_le.mpr hbl
  obtain ⟨fs0, h0⟩ := h0
  refine lv_aload_n hx hb dL_348 rfl (lv_at hl 1 rfl) ?_
  refine lv_aload_n hx hb dL_349 rfl (lv_at hl 0 rfl) ?_
  refine lv_iload_n hx hb dL_350 rfl (lv_at hl 3 rfl) ?_
  refine lv_iconst (v := 1) hx hb dL_351 (by decide) ?_
  refine lv_iadd hx hb dL_352 ?_
  refine va_sld hx hb hX hbl hbA hS (hin 1 (by decide)) dL_353 ?_
  refine lv_aload_n hx hb dL_354 rfl (lv_at hl 0 rfl) ?_
  refine lv_iload_n hx hb dL_355 rfl (lv_at hl 3 rfl) ?_
  refine lv_iconst (v := 2) hx hb dL_356 (by decide) ?_
  refine lv_iadd hx hb dL_357 ?_
  refine va_sld hx hb hX hbl hbA hS (hin 2 (by decide)) dL_358 ?_
  refine w_callV (M' := xmX5_middle) (bb := 68) (hh := 403) (av := [.int (xs (x3 + 1).toNatClampNeg), .int (xs (x3 + 2).toNatClampNeg)]) (rest := []) C' rfl rfl (by decide +kernel) hP hS h0 rfl hR rfl hl.1 rfl dL_359 (by decide) hcu hsu (by decide) ?_
  rintro r n1 h1 H1 locs1 ⟨rfl, ⟨fs64, h64⟩, v, rfl, hR2⟩ hP1 hS1
  have hS := hS1
  refine lv_aload_n hx hb dL_362 rfl (lv_at hl 2 rfl) ?_
  refine lv_aload_n hx hb dL_363 rfl (lv_at hl 0 rfl) ?_
  refine lv_iload_n hx hb dL_364 rfl (lv_at hl 3 rfl) ?_
  refine lv_iconst (v := 1) hx hb dL_365 (by decide) ?_
  refine lv_iadd hx hb dL_366 ?_
  refine va_sld hx hb hX hbl hbA hS (hin 1 (by decide)) dL_367 ?_
  refine lv_aload_n hx hb dL_368 rfl (lv_at hl 0 rfl) ?_
  refine lv_iload_n hx hb dL_369 rfl (lv_at hl 3 rfl) ?_
  refine lv_iconst (v := 2) hx hb dL_370 (by decide) ?_
  refine lv_iadd hx hb dL_371 ?_
  refine va_sld hx hb hX hbl hbA hS (hin 2 (by decide)) dL_372 ?_
  refine w_callV (M' := xmX6_middle) (bb := 110) (hh := 792) (av := [.int (xs (x3 + 1).toNatClampNeg), .int (xs (x3 + 2).toNatClampNeg)]) (rest := [.long v]) C' rfl rfl (by decide +kernel) hP1 hS1 h64 rfl hR2 rfl hl.1 rfl dL_373 (Nat.le_of_ble_eq_true rfl) hcu hsu (by decide) ?_
  rintro r2 n2 h2 H2 locs2 ⟨rfl, rfl, hRel⟩ hP2 hS2
  refine W.lcmp hx hb dL_376 ?_
  exact lv_if_eq (tgt := 767) hx hb dL_377 (by decide) (fun _ => kk h2 H2 locs2 hRel hP2 hS2) (fun hne => absurd (by simp [lg_cmp]) hne)
theorem lw_case11 {p : Program} {l : Launch} {e : Env} {s : State} {m : MethodId} {below : List Frame} {meth : Method} {c : Code} {b L : Nat} {xs : Nat → Int32} {g : xG} {Rel : xHp → Prop} {N cu su : Nat} {x3 : Int32} {h : xHp} {H : Heap} {locs : List Loc} {ls : Array Slot} {Qf : State → Prop} (C : lw_C p s m meth c b L xs g) (hin : ∀ j : Nat, j ≤ 4 → vp_in (x3 + Int32.ofNat j) L) (h0 : ∃ fs, h 0 = some (.inr (5, fs))) (hcu : cu ≤ 600000) (hsu : su ≤ 7302250) (hR : xSameI xmX5_where xmX6_where Rel N [.int (xs (x3 + 1).toNatClampNeg), .int (xs (x3 + 2).toNatClampNeg), .int (xs (x3 + 3).toNatClampNeg), .int (xs (x3 + 4).toNatClampNeg)] h) (hP : xP g N h H) (hS : va_S (xA g) s.heap H locs) (hl : lv_has ls 4 [(0, .ref b), (1, .ref (g.2.2 + 0)), (2, .ref (g.2.2 + 64)), (3, .int x3)])
    (kk : ∀ (h' : xHp) (H1 : Heap) (locs1 : List Loc), Rel h' → xP g N h' H1 → va_S (xA g) s.heap H1 locs1 → W p l e room_1 s m #[Value.ref b] below meth c H1 locs1 cu su Qf (F0 m 767 ls [])) : W p l e room_1 s m #[Value.ref b] below meth c H locs cu su Qf (F0 m 382 ls []) := by
  have C' := C
  obtain ⟨⟨hx, hb, hr, hml, hown, hts, hX, hbl, hlocks, hgv⟩, hK, hN, hz⟩ := C
  have hbA : ¬ (xA g) b := by unfold xA; rw [hz]; exact Nat.not_le.mpr hbl
  obtain ⟨fs0, h0⟩ := h0
  refine lv_aload_n hx hb dL_382 rfl (lv_at hl 1 rfl) ?_
  refine lv_aload_n hx hb dL_383 rfl (lv_at hl 0 rfl) ?_
  refine lv_iload_n hx hb dL_384 rfl (lv_at hl 3 rfl) ?_
  refine lv_iconst (v := 1) hx hb dL_385 (by decide) ?_
  refine lv_iadd hx hb dL_386 ?_
  refine va_sld hx hb hX hbl hbA hS (hin 1 (by decide)) dL_387 ?_
  refine lv_aload_n hx hb dL_388 rfl (lv_at hl 0 rfl) ?_
  refine lv_iload_n hx hb dL_389 rfl (lv_at hl 3 rfl) ?_
  refine lv_iconst (v := 2) hx hb dL_390 (by decide) ?_
  refine lv_iadd hx hb dL_391 ?_
  refine va_sld hx hb hX hbl hbA hS (hin 2 (by decide)) dL_392 ?_
  refine lv_aload_n hx hb dL_393 rfl (lv_at hl 0 rfl) ?_
  refine lv_iload_n hx hb dL_394 rfl (lv_at hl 3 rfl) ?_
  refine lv_iconst (v := 3) hx hb dL_395 (by decide) ?_
  refine lv_iadd hx hb dL_396 ?_
  refine va_sld hx hb hX hbl hbA hS (hin 3 (by decide)) dL_397 ?_
  refine lv_aload_n hx hb dL_398 rfl (lv_at hl 0 rfl) ?_
  refine lv_iload_n hx hb dL_399 rfl (lv_at hl 3 rfl) ?_
  refine lv_iconst (v := 4) hx hb dL_400 (by decide) ?_
  refine lv_iadd hx hb dL_401 ?_
  refine va_sld hx hb hX hbl hbA hS (hin 4 (by decide)) dL_402 ?_
  refine w_callV (M' := xmX5_where) (bb := 69) (hh := 418) (av := [.int (xs (x3 + 1).toNatClampNeg), .int (xs (x3 + 2).toNatClampNeg), .int (xs (x3 + 3).toNatClampNeg), .int (xs (x3 + 4).toNatClampNeg)]) (rest := []) C' rfl rfl (by decide +kernel) hP hS h0 rfl hR rfl hl.1 rfl dL_403 (by decide) hcu hsu (by decide) ?_
  rintro r n1 h1 H1 locs1 ⟨rfl, ⟨fs64, h64⟩, v, rfl, hR2⟩ hP1 hS1
  have hS := hS1
  refine lv_aload_n hx hb dL_406 rfl (lv_at hl 2 rfl) ?_
  refine lv_aload_n hx hb dL_407 rfl (lv_at hl 0 rfl) ?_
  refine lv_iload_n hx hb dL_408 rfl (lv_at hl 3 rfl) ?_
  refine lv_iconst (v := 1) hx hb dL_409 (by decide) ?_
  refine lv_iadd hx hb dL_410 ?_
  refine va_sld hx hb hX hbl hbA hS (hin 1 (by decide)) dL_411 ?_
  refine lv_aload_n hx hb dL_412 rfl (lv_at hl 0 rfl) ?_
  refine lv_iload_n hx hb dL_413 rfl (lv_at hl 3 rfl) ?_
  refine lv_iconst (v := 2) hx hb dL_414 (by decide) ?_
  refine lv_iadd hx hb dL_415 ?_
  refine va_sld hx hb hX hbl hbA hS (hin 2 (by decide)) dL_416 ?_
  refine lv_aload_n hx hb dL_417 rfl (lv_at hl 0 rfl) ?_
  refine lv_iload_n hx hb dL_418 rfl (lv_at hl 3 rfl) ?_
  refine lv_iconst (v := 3) hx hb dL_419 (by decide) ?_
  refine lv_iadd hx hb dL_420 ?_
  refine va_sld hx hb hX hbl hbA hS (hin 3 (by decide)) dL_421 ?_
  refine lv_aload_n hx hb dL_422 rfl (lv_at hl 0 rfl) ?_
  refine lv_iload_n hx hb dL_423 rfl (lv_at hl 3 rfl) ?_
  refine lv_iconst (v := 4) hx hb dL_424 (by decide) ?_
  refine lv_iadd hx hb dL_425 ?_
  refine va_sld hx hb hX hbl hbA hS (hin 4 (by decide)) dL_426 ?_
  refine w_callV (M' := xmX6_where) (bb := 111) (hh := 801) (av := [.int (xs (x3 + 1).toNatClampNeg), .int (xs (x3 + 2).toNatClampNeg), .int (xs (x3 + 3).toNatClampNeg), .int (xs (x3 + 4).toNatClampNeg)]) (rest := [.int v]) C' rfl rfl (by decide +kernel) hP1 hS1 h64 rfl hR2 rfl hl.1 rfl dL_427 (Nat.le_of_ble_eq_true rfl) hcu hsu (by decide) ?_
  rintro r2 n2 h2 H2 locs2 ⟨rfl, rfl, hRel⟩ hP2 hS2
  exact lv_icmp_eq (tgt := 767) hx hb dL_430 (by decide) (fun _ => kk h2 H2 locs2 hRel hP2 hS2) (fun hne => absurd rfl hne)
theorem lw_case12 {p : Program} {l : Launch} {e : Env} {s : State} {m : MethodId} {below : List Frame} {meth : Method} {c : Code} {b L : Nat} {xs : Nat → Int32} {g : xG} {Rel : xHp → Prop} {N cu su : Nat} {x3 : Int32} {h : xHp} {H : Heap} {locs : List Loc} {ls : Array Slot} {Qf : State → Prop} (C : lw_C p s m meth c b L xs g) (hin : ∀ j : Nat, j ≤ 4 → vp_in (x3 + Int32.ofNat j) L) (h0 : ∃ fs, h 0 = some (.inr (5, fs))) (hcu : cu ≤ 600000) (hsu : su ≤ 7302250) (hR : xSameI xmX5_cut xmX6_cut Rel N [.int (xs (x3 + 1).toNatClampNeg), .int (xs (x3 + 2).toNatClampNeg), .int (xs (x3 + 3).toNatClampNeg), .int (xs (x3 + 4).toNatClampNeg)] h) (hP : xP g N h H) (hS : va_S (xA g) s.heap H locs) (hl : lv_has ls 4 [(0, .ref b), (1, .ref (g.2.2 + 0)), (2, .ref (g.2.2 + 64)), (3, .int x3)])
    (kk : ∀ (h' : xHp) (H1 : Heap) (locs1 : List Loc), Rel h' → xP g N h' H1 → va_S (xA g) s.heap H1 locs1 → W p l e room_1 s m #[Value.ref b] below meth c H1 locs1 cu su Qf (F0 m 767 ls [])) : W p l e room_1 s m #[Value.ref b] below meth c H locs cu su Qf (F0 m 435 ls []) := by
  have C' := C
  obtain ⟨⟨hx, hb, hr, hml, hown, hts, hX, hbl, hlocks, hgv⟩, hK, hN, hz⟩ := C
  have hbA : ¬ (xA g) b := by unfold xA; rw [hz]; exact Nat.not_le.mpr hbl
  obtain ⟨fs0, h0⟩ := h0
  refine lv_aload_n hx hb dL_435 rfl (lv_at hl 1 rfl) ?_
  refine lv_aload_n hx hb dL_436 rfl (lv_at hl 0 rfl) ?_
  refine lv_iload_n hx hb dL_437 rfl (lv_at hl 3 rfl) ?_
  refine lv_iconst (v := 1) hx hb dL_438 (by decide) ?_
  refine lv_iadd hx hb dL_439 ?_
  refine va_sld hx hb hX hbl hbA hS (hin 1 (by decide)) dL_440 ?_
  refine lv_aload_n hx hb dL_441 rfl (lv_at hl 0 rfl) ?_
  refine lv_iload_n hx hb dL_442 rfl (lv_at hl 3 rfl) ?_
  refine lv_iconst (v := 2) hx hb dL_443 (by decide) ?_
  refine lv_iadd hx hb dL_444 ?_
  refine va_sld hx hb hX hbl hbA hS (hin 2 (by decide)) dL_445 ?_
  refine lv_aload_n hx hb dL_446 rfl (lv_at hl 0 rfl) ?_
  refine lv_iload_n hx hb dL_447 rfl (lv_at hl 3 rfl) ?_
  refine lv_iconst (v := 3) hx hb dL_448 (by decide) ?_
  refine lv_iadd hx hb dL_449 ?_
  refine va_sld hx hb hX hbl hbA hS (hin 3 (by decide)) dL_450 ?_
  refine lv_aload_n hx hb dL_451 rfl (lv_at hl 0 rfl) ?_
  refine lv_iload_n hx hb dL_452 rfl (lv_at hl 3 rfl) ?_
  refine lv_iconst (v := 4) hx hb dL_453 (by decide) ?_
  refine lv_iadd hx hb dL_454 ?_
  refine va_sld hx hb hX hbl hbA hS (hin 4 (by decide)) dL_455 ?_
  refine w_callV (M' := xmX5_cut) (bb := 71) (hh := 427) (av := [.int (xs (x3 + 1).toNatClampNeg), .int (xs (x3 + 2).toNatClampNeg), .int (xs (x3 + 3).toNatClampNeg), .int (xs (x3 + 4).toNatClampNeg)]) (rest := []) C' rfl rfl (by decide +kernel) hP hS h0 rfl hR rfl hl.1 rfl dL_456 (by decide) hcu hsu (by decide) ?_
  rintro r n1 h1 H1 locs1 ⟨rfl, ⟨fs64, h64⟩, v, rfl, hR2⟩ hP1 hS1
  have hS := hS1
  refine lv_aload_n hx hb dL_459 rfl (lv_at hl 2 rfl) ?_
  refine lv_aload_n hx hb dL_460 rfl (lv_at hl 0 rfl) ?_
  refine lv_iload_n hx hb dL_461 rfl (lv_at hl 3 rfl) ?_
  refine lv_iconst (v := 1) hx hb dL_462 (by decide) ?_
  refine lv_iadd hx hb dL_463 ?_
  refine va_sld hx hb hX hbl hbA hS (hin 1 (by decide)) dL_464 ?_
  refine lv_aload_n hx hb dL_465 rfl (lv_at hl 0 rfl) ?_
  refine lv_iload_n hx hb dL_466 rfl (lv_at hl 3 rfl) ?_
  refine lv_iconst (v := 2) hx hb dL_467 (by decide) ?_
  refine lv_iadd hx hb dL_468 ?_
  refine va_sld hx hb hX hbl hbA hS (hin 2 (by decide)) dL_469 ?_
  refine lv_aload_n hx hb dL_470 rfl (lv_at hl 0 rfl) ?_
  refine lv_iload_n hx hb dL_471 rfl (lv_at hl 3 rfl) ?_
  refine lv_iconst (v := 3) hx hb dL_472 (by decide) ?_
  refine lv_iadd hx hb dL_473 ?_
  refine va_sld hx hb hX hbl hbA hS (hin 3 (by decide)) dL_474 ?_
  refine lv_aload_n hx hb dL_475 rfl (lv_at hl 0 rfl) ?_
  refine lv_iload_n hx hb dL_476 rfl (lv_at hl 3 rfl) ?_
  refine lv_iconst (v := 4) hx hb dL_477 (by decide) ?_
  refine lv_iadd hx hb dL_478 ?_
  refine va_sld hx hb hX hbl hbA hS (hin 4 (by decide)) dL_479 ?_
  refine w_callV (M' := xmX6_cut) (bb := 117) (hh := 807) (av := [.int (xs (x3 + 1).toNatClampNeg), .int (xs (x3 + 2).toNatClampNeg), .int (xs (x3 + 3).toNatClampNeg), .int (xs (x3 + 4).toNatClampNeg)]) (rest := [.int v]) C' rfl rfl (by decide +kernel) hP1 hS1 h64 rfl hR2 rfl hl.1 rfl dL_480 (Nat.le_of_ble_eq_true rfl) hcu hsu (by decide) ?_
  rintro r2 n2 h2 H2 locs2 ⟨rfl, rfl, hRel⟩ hP2 hS2
  exact lv_icmp_eq (tgt := 767) hx hb dL_483 (by decide) (fun _ => kk h2 H2 locs2 hRel hP2 hS2) (fun hne => absurd rfl hne)
theorem lw_case13 {p : Program} {l : Launch} {e : Env} {s : State} {m : MethodId} {below : List Frame} {meth : Method} {c : Code} {b L : Nat} {xs : Nat → Int32} {g : xG} {Rel : xHp → Prop} {N cu su : Nat} {x3 : Int32} {h : xHp} {H : Heap} {locs : List Loc} {ls : Array Slot} {Qf : State → Prop} (C : lw_C p s m meth c b L xs g) (hin : ∀ j : Nat, j ≤ 4 → vp_in (x3 + Int32.ofNat j) L) (h0 : ∃ fs, h 0 = some (.inr (5, fs))) (hcu : cu ≤ 600000) (hsu : su ≤ 7302250) (hR : xSameL xmX5_cutAt xmX6_cutAt Rel N [.int (xs (x3 + 1).toNatClampNeg), .int (xs (x3 + 2).toNatClampNeg), .int (xs (x3 + 3).toNatClampNeg)] h) (hP : xP g N h H) (hS : va_S (xA g) s.heap H locs) (hl : lv_has ls 4 [(0, .ref b), (1, .ref (g.2.2 + 0)), (2, .ref (g.2.2 + 64)), (3, .int x3)])
    (kk : ∀ (h' : xHp) (H1 : Heap) (locs1 : List Loc), Rel h' → xP g N h' H1 → va_S (xA g) s.heap H1 locs1 → W p l e room_1 s m #[Value.ref b] below meth c H1 locs1 cu su Qf (F0 m 767 ls [])) : W p l e room_1 s m #[Value.ref b] below meth c H locs cu su Qf (F0 m 488 ls []) := by
  have C' := C
  obtain ⟨⟨hx, hb, hr, hml, hown, hts, hX, hbl, hlocks, hgv⟩, hK, hN, hz⟩ := C
  have hbA : ¬ (xA g) b := by unfold xA; rw [hz]; exact Nat.not_le.mpr hbl
  obtain ⟨fs0, h0⟩ := h0
  refine lv_aload_n hx hb dL_488 rfl (lv_at hl 1 rfl) ?_
  refine lv_aload_n hx hb dL_489 rfl (lv_at hl 0 rfl) ?_
  refine lv_iload_n hx hb dL_490 rfl (lv_at hl 3 rfl) ?_
  refine lv_iconst (v := 1) hx hb dL_491 (by decide) ?_
  refine lv_iadd hx hb dL_492 ?_
  refine va_sld hx hb hX hbl hbA hS (hin 1 (by decide)) dL_493 ?_
  refine lv_aload_n hx hb dL_494 rfl (lv_at hl 0 rfl) ?_
  refine lv_iload_n hx hb dL_495 rfl (lv_at hl 3 rfl) ?_
  refine lv_iconst (v := 2) hx hb dL_496 (by decide) ?_
  refine lv_iadd hx hb dL_497 ?_
  refine va_sld hx hb hX hbl hbA hS (hin 2 (by decide)) dL_498 ?_
  refine lv_aload_n hx hb dL_499 rfl (lv_at hl 0 rfl) ?_
  refine lv_iload_n hx hb dL_500 rfl (lv_at hl 3 rfl) ?_
  refine lv_iconst (v := 3) hx hb dL_501 (by decide) ?_
  refine lv_iadd hx hb dL_502 ?_
  refine va_sld hx hb hX hbl hbA hS (hin 3 (by decide)) dL_503 ?_
  refine w_callV (M' := xmX5_cutAt) (bb := 72) (hh := 464) (av := [.int (xs (x3 + 1).toNatClampNeg), .int (xs (x3 + 2).toNatClampNeg), .int (xs (x3 + 3).toNatClampNeg)]) (rest := []) C' rfl rfl (by decide +kernel) hP hS h0 rfl hR rfl hl.1 rfl dL_504 (by decide) hcu hsu (by decide) ?_
  rintro r n1 h1 H1 locs1 ⟨rfl, ⟨fs64, h64⟩, v, rfl, hR2⟩ hP1 hS1
  have hS := hS1
  refine lv_aload_n hx hb dL_507 rfl (lv_at hl 2 rfl) ?_
  refine lv_aload_n hx hb dL_508 rfl (lv_at hl 0 rfl) ?_
  refine lv_iload_n hx hb dL_509 rfl (lv_at hl 3 rfl) ?_
  refine lv_iconst (v := 1) hx hb dL_510 (by decide) ?_
  refine lv_iadd hx hb dL_511 ?_
  refine va_sld hx hb hX hbl hbA hS (hin 1 (by decide)) dL_512 ?_
  refine lv_aload_n hx hb dL_513 rfl (lv_at hl 0 rfl) ?_
  refine lv_iload_n hx hb dL_514 rfl (lv_at hl 3 rfl) ?_
  refine lv_iconst (v := 2) hx hb dL_515 (by decide) ?_
  refine lv_iadd hx hb dL_516 ?_
  refine va_sld hx hb hX hbl hbA hS (hin 2 (by decide)) dL_517 ?_
  refine lv_aload_n hx hb dL_518 rfl (lv_at hl 0 rfl) ?_
  refine lv_iload_n hx hb dL_519 rfl (lv_at hl 3 rfl) ?_
  refine lv_iconst (v := 3) hx hb dL_520 (by decide) ?_
  refine lv_iadd hx hb dL_521 ?_
  refine va_sld hx hb hX hbl hbA hS (hin 3 (by decide)) dL_522 ?_
  refine w_callV (M' := xmX6_cutAt) (bb := 118) (hh := 830) (av := [.int (xs (x3 + 1).toNatClampNeg), .int (xs (x3 + 2).toNatClampNeg), .int (xs (x3 + 3).toNatClampNeg)]) (rest := [.long v]) C' rfl rfl (by decide +kernel) hP1 hS1 h64 rfl hR2 rfl hl.1 rfl dL_523 (Nat.le_of_ble_eq_true rfl) hcu hsu (by decide) ?_
  rintro r2 n2 h2 H2 locs2 ⟨rfl, rfl, hRel⟩ hP2 hS2
  refine W.lcmp hx hb dL_526 ?_
  exact lv_if_eq (tgt := 767) hx hb dL_527 (by decide) (fun _ => kk h2 H2 locs2 hRel hP2 hS2) (fun hne => absurd (by simp [lg_cmp]) hne)
theorem lw_case14 {p : Program} {l : Launch} {e : Env} {s : State} {m : MethodId} {below : List Frame} {meth : Method} {c : Code} {b L : Nat} {xs : Nat → Int32} {g : xG} {Rel : xHp → Prop} {N cu su : Nat} {x3 : Int32} {h : xHp} {H : Heap} {locs : List Loc} {ls : Array Slot} {Qf : State → Prop} (C : lw_C p s m meth c b L xs g) (hin : ∀ j : Nat, j ≤ 4 → vp_in (x3 + Int32.ofNat j) L) (h0 : ∃ fs, h 0 = some (.inr (5, fs))) (hcu : cu ≤ 600000) (hsu : su ≤ 7302250) (hR : xSameI xmX5_shadow xmX6_shadow Rel N [.int (xs (x3 + 1).toNatClampNeg), .int (xs (x3 + 2).toNatClampNeg), .int (xs (x3 + 3).toNatClampNeg)] h) (hP : xP g N h H) (hS : va_S (xA g) s.heap H locs) (hl : lv_has ls 4 [(0, .ref b), (1, .ref (g.2.2 + 0)), (2, .ref (g.2.2 + 64)), (3, .int x3)])
    (kk : ∀ (h' : xHp) (H1 : Heap) (locs1 : List Loc), Rel h' → xP g N h' H1 → va_S (xA g) s.heap H1 locs1 → W p l e room_1 s m #[Value.ref b] below meth c H1 locs1 cu su Qf (F0 m 767 ls [])) : W p l e room_1 s m #[Value.ref b] below meth c H locs cu su Qf (F0 m 532 ls []) := by
  have C' := C
  obtain ⟨⟨hx, hb, hr, hml, hown, hts, hX, hbl, hlocks, hgv⟩, hK, hN, hz⟩ := C
  have hbA : ¬ (xA g) b := by unfold xA; rw [hz]; exact Nat.not_le.mpr hbl
  obtain ⟨fs0, h0⟩ := h0
  refine lv_aload_n hx hb dL_532 rfl (lv_at hl 1 rfl) ?_
  refine lv_aload_n hx hb dL_533 rfl (lv_at hl 0 rfl) ?_
  refine lv_iload_n hx hb dL_534 rfl (lv_at hl 3 rfl) ?_
  refine lv_iconst (v := 1) hx hb dL_535 (by decide) ?_
  refine lv_iadd hx hb dL_536 ?_
  refine va_sld hx hb hX hbl hbA hS (hin 1 (by decide)) dL_537 ?_
  refine lv_aload_n hx hb dL_538 rfl (lv_at hl 0 rfl) ?_
  refine lv_iload_n hx hb dL_539 rfl (lv_at hl 3 rfl) ?_
  refine lv_iconst (v := 2) hx hb dL_540 (by decide) ?_
  refine lv_iadd hx hb dL_541 ?_
  refine va_sld hx hb hX hbl hbA hS (hin 2 (by decide)) dL_542 ?_
  refine lv_aload_n hx hb dL_543 rfl (lv_at hl 0 rfl) ?_
  refine lv_iload_n hx hb dL_544 rfl (lv_at hl 3 rfl) ?_
  refine lv_iconst (v := 3) hx hb dL_545 (by decide) ?_
  refine lv_iadd hx hb dL_546 ?_
  refine va_sld hx hb hX hbl hbA hS (hin 3 (by decide)) dL_547 ?_
  refine w_callV (M' := xmX5_shadow) (bb := 73) (hh := 469) (av := [.int (xs (x3 + 1).toNatClampNeg), .int (xs (x3 + 2).toNatClampNeg), .int (xs (x3 + 3).toNatClampNeg)]) (rest := []) C' rfl rfl (by decide +kernel) hP hS h0 rfl hR rfl hl.1 rfl dL_548 (by decide) hcu hsu (by decide) ?_
  rintro r n1 h1 H1 locs1 ⟨rfl, ⟨fs64, h64⟩, v, rfl, hR2⟩ hP1 hS1
  have hS := hS1
  refine lv_aload_n hx hb dL_551 rfl (lv_at hl 2 rfl) ?_
  refine lv_aload_n hx hb dL_552 rfl (lv_at hl 0 rfl) ?_
  refine lv_iload_n hx hb dL_553 rfl (lv_at hl 3 rfl) ?_
  refine lv_iconst (v := 1) hx hb dL_554 (by decide) ?_
  refine lv_iadd hx hb dL_555 ?_
  refine va_sld hx hb hX hbl hbA hS (hin 1 (by decide)) dL_556 ?_
  refine lv_aload_n hx hb dL_557 rfl (lv_at hl 0 rfl) ?_
  refine lv_iload_n hx hb dL_558 rfl (lv_at hl 3 rfl) ?_
  refine lv_iconst (v := 2) hx hb dL_559 (by decide) ?_
  refine lv_iadd hx hb dL_560 ?_
  refine va_sld hx hb hX hbl hbA hS (hin 2 (by decide)) dL_561 ?_
  refine lv_aload_n hx hb dL_562 rfl (lv_at hl 0 rfl) ?_
  refine lv_iload_n hx hb dL_563 rfl (lv_at hl 3 rfl) ?_
  refine lv_iconst (v := 3) hx hb dL_564 (by decide) ?_
  refine lv_iadd hx hb dL_565 ?_
  refine va_sld hx hb hX hbl hbA hS (hin 3 (by decide)) dL_566 ?_
  refine w_callV (M' := xmX6_shadow) (bb := 124) (hh := 834) (av := [.int (xs (x3 + 1).toNatClampNeg), .int (xs (x3 + 2).toNatClampNeg), .int (xs (x3 + 3).toNatClampNeg)]) (rest := [.int v]) C' rfl rfl (by decide +kernel) hP1 hS1 h64 rfl hR2 rfl hl.1 rfl dL_567 (Nat.le_of_ble_eq_true rfl) hcu hsu (by decide) ?_
  rintro r2 n2 h2 H2 locs2 ⟨rfl, rfl, hRel⟩ hP2 hS2
  exact lv_icmp_eq (tgt := 767) hx hb dL_570 (by decide) (fun _ => kk h2 H2 locs2 hRel hP2 hS2) (fun hne => absurd rfl hne)
theorem lw_case15 {p : Program} {l : Launch} {e : Env} {s : State} {m : MethodId} {below : List Frame} {meth : Method} {c : Code} {b L : Nat} {xs : Nat → Int32} {g : xG} {Rel : xHp → Prop} {N cu su : Nat} {x3 : Int32} {h : xHp} {H : Heap} {locs : List Loc} {ls : Array Slot} {Qf : State → Prop} (C : lw_C p s m meth c b L xs g) (hin : ∀ j : Nat, j ≤ 4 → vp_in (x3 + Int32.ofNat j) L) (h0 : ∃ fs, h 0 = some (.inr (5, fs))) (hcu : cu ≤ 600000) (hsu : su ≤ 7302250) (hR : xSameL xmX5_far xmX6_far Rel N [.int (xs (x3 + 1).toNatClampNeg), .int (xs (x3 + 2).toNatClampNeg), .int (xs (x3 + 3).toNatClampNeg), .int (xs (x3 + 4).toNatClampNeg)] h) (hP : xP g N h H) (hS : va_S (xA g) s.heap H locs) (hl : lv_has ls 4 [(0, .ref b), (1, .ref (g.2.2 + 0)), (2, .ref (g.2.2 + 64)), (3, .int x3)])
    (kk : ∀ (h' : xHp) (H1 : Heap) (locs1 : List Loc), Rel h' → xP g N h' H1 → va_S (xA g) s.heap H1 locs1 → W p l e room_1 s m #[Value.ref b] below meth c H1 locs1 cu su Qf (F0 m 767 ls [])) : W p l e room_1 s m #[Value.ref b] below meth c H locs cu su Qf (F0 m 575 ls []) := by
  have C' := C
  obtain ⟨⟨hx, hb, hr, hml, hown, hts, hX, hbl, hlocks, hgv⟩, hK, hN, hz⟩ := C
  have hbA : ¬ (xA g) b := by unfold xA; rw [hz]; exact Nat.not_le.mpr hbl
  obtain ⟨fs0, h0⟩ := h0
  refine lv_aload_n hx hb dL_575 rfl (lv_at hl 1 rfl) ?_
  refine lv_aload_n hx hb dL_576 rfl (lv_at hl 0 rfl) ?_
  refine lv_iload_n hx hb dL_577 rfl (lv_at hl 3 rfl) ?_
  refine lv_iconst (v := 1) hx hb dL_578 (by decide) ?_
  refine lv_iadd hx hb dL_579 ?_
  refine va_sld hx hb hX hbl hbA hS (hin 1 (by decide)) dL_580 ?_
  refine lv_aload_n hx hb dL_581 rfl (lv_at hl 0 rfl) ?_
  refine lv_iload_n hx hb dL_582 rfl (lv_at hl 3 rfl) ?_
  refine lv_iconst (v := 2) hx hb dL_583 (by decide) ?_
  refine lv_iadd hx hb dL_584 ?_
  refine va_sld hx hb hX hbl hbA hS (hin 2 (by decide)) dL_585 ?_
  refine lv_aload_n hx hb dL_586 rfl (lv_at hl 0 rfl) ?_
  refine lv_iload_n hx hb dL_587 rfl (lv_at hl 3 rfl) ?_
  refine lv_iconst (v := 3) hx hb dL_588 (by decide) ?_
  refine lv_iadd hx hb dL_589 ?_
  refine va_sld hx hb hX hbl hbA hS (hin 3 (by decide)) dL_590 ?_
  refine lv_aload_n hx hb dL_591 rfl (lv_at hl 0 rfl) ?_
  refine lv_iload_n hx hb dL_592 rfl (lv_at hl 3 rfl) ?_
  refine lv_iconst (v := 4) hx hb dL_593 (by decide) ?_
  refine lv_iadd hx hb dL_594 ?_
  refine va_sld hx hb hX hbl hbA hS (hin 4 (by decide)) dL_595 ?_
  refine w_callV (M' := xmX5_far) (bb := 74) (hh := 476) (av := [.int (xs (x3 + 1).toNatClampNeg), .int (xs (x3 + 2).toNatClampNeg), .int (xs (x3 + 3).toNatClampNeg), .int (xs (x3 + 4).toNatClampNeg)]) (rest := []) C' rfl rfl (by decide +kernel) hP hS h0 rfl hR rfl hl.1 rfl dL_596 (by decide) hcu hsu (by decide) ?_
  rintro r n1 h1 H1 locs1 ⟨rfl, ⟨fs64, h64⟩, v, rfl, hR2⟩ hP1 hS1
  have hS := hS1
  refine lv_aload_n hx hb dL_599 rfl (lv_at hl 2 rfl) ?_
  refine lv_aload_n hx hb dL_600 rfl (lv_at hl 0 rfl) ?_
  refine lv_iload_n hx hb dL_601 rfl (lv_at hl 3 rfl) ?_
  refine lv_iconst (v := 1) hx hb dL_602 (by decide) ?_
  refine lv_iadd hx hb dL_603 ?_
  refine va_sld hx hb hX hbl hbA hS (hin 1 (by decide)) dL_604 ?_
  refine lv_aload_n hx hb dL_605 rfl (lv_at hl 0 rfl) ?_
  refine lv_iload_n hx hb dL_606 rfl (lv_at hl 3 rfl) ?_
  refine lv_iconst (v := 2) hx hb dL_607 (by decide) ?_
  refine lv_iadd hx hb dL_608 ?_
  refine va_sld hx hb hX hbl hbA hS (hin 2 (by decide)) dL_609 ?_
  refine lv_aload_n hx hb dL_610 rfl (lv_at hl 0 rfl) ?_
  refine lv_iload_n hx hb dL_611 rfl (lv_at hl 3 rfl) ?_
  refine lv_iconst (v := 3) hx hb dL_612 (by decide) ?_
  refine lv_iadd hx hb dL_613 ?_
  refine va_sld hx hb hX hbl hbA hS (hin 3 (by decide)) dL_614 ?_
  refine lv_aload_n hx hb dL_615 rfl (lv_at hl 0 rfl) ?_
  refine lv_iload_n hx hb dL_616 rfl (lv_at hl 3 rfl) ?_
  refine lv_iconst (v := 4) hx hb dL_617 (by decide) ?_
  refine lv_iadd hx hb dL_618 ?_
  refine va_sld hx hb hX hbl hbA hS (hin 4 (by decide)) dL_619 ?_
  refine w_callV (M' := xmX6_far) (bb := 125) (hh := 858) (av := [.int (xs (x3 + 1).toNatClampNeg), .int (xs (x3 + 2).toNatClampNeg), .int (xs (x3 + 3).toNatClampNeg), .int (xs (x3 + 4).toNatClampNeg)]) (rest := [.long v]) C' rfl rfl (by decide +kernel) hP1 hS1 h64 rfl hR2 rfl hl.1 rfl dL_620 (Nat.le_of_ble_eq_true rfl) hcu hsu (by decide) ?_
  rintro r2 n2 h2 H2 locs2 ⟨rfl, rfl, hRel⟩ hP2 hS2
  refine W.lcmp hx hb dL_623 ?_
  exact lv_if_eq (tgt := 767) hx hb dL_624 (by decide) (fun _ => kk h2 H2 locs2 hRel hP2 hS2) (fun hne => absurd (by simp [lg_cmp]) hne)
theorem lw_case16 {p : Program} {l : Launch} {e : Env} {s : State} {m : MethodId} {below : List Frame} {meth : Method} {c : Code} {b L : Nat} {xs : Nat → Int32} {g : xG} {Rel : xHp → Prop} {N cu su : Nat} {x3 : Int32} {h : xHp} {H : Heap} {locs : List Loc} {ls : Array Slot} {Qf : State → Prop} (C : lw_C p s m meth c b L xs g) (hin : ∀ j : Nat, j ≤ 4 → vp_in (x3 + Int32.ofNat j) L) (h0 : ∃ fs, h 0 = some (.inr (5, fs))) (hcu : cu ≤ 600000) (hsu : su ≤ 7302250) (hR : xSameI xmX5_way xmX6_way Rel N [.int (xs (x3 + 1).toNatClampNeg), .int (xs (x3 + 2).toNatClampNeg)] h) (hP : xP g N h H) (hS : va_S (xA g) s.heap H locs) (hl : lv_has ls 4 [(0, .ref b), (1, .ref (g.2.2 + 0)), (2, .ref (g.2.2 + 64)), (3, .int x3)])
    (kk : ∀ (h' : xHp) (H1 : Heap) (locs1 : List Loc), Rel h' → xP g N h' H1 → va_S (xA g) s.heap H1 locs1 → W p l e room_1 s m #[Value.ref b] below meth c H1 locs1 cu su Qf (F0 m 767 ls [])) : W p l e room_1 s m #[Value.ref b] below meth c H locs cu su Qf (F0 m 629 ls []) := by
  have C' := C
  obtain ⟨⟨hx, hb, hr, hml, hown, hts, hX, hbl, hlocks, hgv⟩, hK, hN, hz⟩ := C
  have hbA : ¬ (xA g) b := by unfold xA; rw [hz]; exact Nat.not_le.mpr hbl
  obtain ⟨fs0, h0⟩ := h0
  refine lv_aload_n hx hb dL_629 rfl (lv_at hl 1 rfl) ?_
  refine lv_aload_n hx hb dL_630 rfl (lv_at hl 0 rfl) ?_
  refine lv_iload_n hx hb dL_631 rfl (lv_at hl 3 rfl) ?_
  refine lv_iconst (v := 1) hx hb dL_632 (by decide) ?_
  refine lv_iadd hx hb dL_633 ?_
  refine va_sld hx hb hX hbl hbA hS (hin 1 (by decide)) dL_634 ?_
  refine lv_aload_n hx hb dL_635 rfl (lv_at hl 0 rfl) ?_
  refine lv_iload_n hx hb dL_636 rfl (lv_at hl 3 rfl) ?_
  refine lv_iconst (v := 2) hx hb dL_637 (by decide) ?_
  refine lv_iadd hx hb dL_638 ?_
  refine va_sld hx hb hX hbl hbA hS (hin 2 (by decide)) dL_639 ?_
  refine w_callV (M' := xmX5_way) (bb := 75) (hh := 494) (av := [.int (xs (x3 + 1).toNatClampNeg), .int (xs (x3 + 2).toNatClampNeg)]) (rest := []) C' rfl rfl (by decide +kernel) hP hS h0 rfl hR rfl hl.1 rfl dL_640 (by decide) hcu hsu (by decide) ?_
  rintro r n1 h1 H1 locs1 ⟨rfl, ⟨fs64, h64⟩, v, rfl, hR2⟩ hP1 hS1
  have hS := hS1
  refine lv_aload_n hx hb dL_643 rfl (lv_at hl 2 rfl) ?_
  refine lv_aload_n hx hb dL_644 rfl (lv_at hl 0 rfl) ?_
  refine lv_iload_n hx hb dL_645 rfl (lv_at hl 3 rfl) ?_
  refine lv_iconst (v := 1) hx hb dL_646 (by decide) ?_
  refine lv_iadd hx hb dL_647 ?_
  refine va_sld hx hb hX hbl hbA hS (hin 1 (by decide)) dL_648 ?_
  refine lv_aload_n hx hb dL_649 rfl (lv_at hl 0 rfl) ?_
  refine lv_iload_n hx hb dL_650 rfl (lv_at hl 3 rfl) ?_
  refine lv_iconst (v := 2) hx hb dL_651 (by decide) ?_
  refine lv_iadd hx hb dL_652 ?_
  refine va_sld hx hb hX hbl hbA hS (hin 2 (by decide)) dL_653 ?_
  refine w_callV (M' := xmX6_way) (bb := 126) (hh := 862) (av := [.int (xs (x3 + 1).toNatClampNeg), .int (xs (x3 + 2).toNatClampNeg)]) (rest := [.int v]) C' rfl rfl (by decide +kernel) hP1 hS1 h64 rfl hR2 rfl hl.1 rfl dL_654 (Nat.le_of_ble_eq_true rfl) hcu hsu (by decide) ?_
  rintro r2 n2 h2 H2 locs2 ⟨rfl, rfl, hRel⟩ hP2 hS2
  exact lv_icmp_eq (tgt := 767) hx hb dL_657 (by decide) (fun _ => kk h2 H2 locs2 hRel hP2 hS2) (fun hne => absurd rfl hne)
theorem lw_case17 {p : Program} {l : Launch} {e : Env} {s : State} {m : MethodId} {below : List Frame} {meth : Method} {c : Code} {b L : Nat} {xs : Nat → Int32} {g : xG} {Rel : xHp → Prop} {N cu su : Nat} {x3 : Int32} {h : xHp} {H : Heap} {locs : List Loc} {ls : Array Slot} {Qf : State → Prop} (C : lw_C p s m meth c b L xs g) (hin : ∀ j : Nat, j ≤ 4 → vp_in (x3 + Int32.ofNat j) L) (h0 : ∃ fs, h 0 = some (.inr (5, fs))) (hcu : cu ≤ 600000) (hsu : su ≤ 7302250) (hR : xSameI xmX5_symmetries xmX6_symmetries Rel N [] h) (hP : xP g N h H) (hS : va_S (xA g) s.heap H locs) (hl : lv_has ls 4 [(0, .ref b), (1, .ref (g.2.2 + 0)), (2, .ref (g.2.2 + 64)), (3, .int x3)])
    (kk : ∀ (h' : xHp) (H1 : Heap) (locs1 : List Loc), Rel h' → xP g N h' H1 → va_S (xA g) s.heap H1 locs1 → W p l e room_1 s m #[Value.ref b] below meth c H1 locs1 cu su Qf (F0 m 767 ls [])) : W p l e room_1 s m #[Value.ref b] below meth c H locs cu su Qf (F0 m 662 ls []) := by
  have C' := C
  obtain ⟨⟨hx, hb, hr, hml, hown, hts, hX, hbl, hlocks, hgv⟩, hK, hN, hz⟩ := C
  have hbA : ¬ (xA g) b := by unfold xA; rw [hz]; exact Nat.not_le.mpr hbl
  obtain ⟨fs0, h0⟩ := h0
  refine lv_aload_n hx hb dL_662 rfl (lv_at hl 1 rfl) ?_
  refine w_callV (M' := xmX5_symmetries) (bb := 77) (hh := 507) (av := []) (rest := []) C' rfl rfl (by decide +kernel) hP hS h0 rfl hR rfl hl.1 rfl dL_663 (by decide) hcu hsu (by decide) ?_
  rintro r n1 h1 H1 locs1 ⟨rfl, ⟨fs64, h64⟩, v, rfl, hR2⟩ hP1 hS1
  have hS := hS1
  refine lv_aload_n hx hb dL_666 rfl (lv_at hl 2 rfl) ?_
  refine w_callV (M' := xmX6_symmetries) (bb := 136) (hh := 866) (av := []) (rest := [.int v]) C' rfl rfl (by decide +kernel) hP1 hS1 h64 rfl hR2 rfl hl.1 rfl dL_667 (Nat.le_of_ble_eq_true rfl) hcu hsu (by decide) ?_
  rintro r2 n2 h2 H2 locs2 ⟨rfl, rfl, hRel⟩ hP2 hS2
  exact lv_icmp_eq (tgt := 767) hx hb dL_670 (by decide) (fun _ => kk h2 H2 locs2 hRel hP2 hS2) (fun hne => absurd rfl hne)
theorem lw_case18 {p : Program} {l : Launch} {e : Env} {s : State} {m : MethodId} {below : List Frame} {meth : Method} {c : Code} {b L : Nat} {xs : Nat → Int32} {g : xG} {Rel : xHp → Prop} {N cu su : Nat} {x3 : Int32} {h : xHp} {H : Heap} {locs : List Loc} {ls : Array Slot} {Qf : State → Prop} (C : lw_C p s m meth c b L xs g) (hin : ∀ j : Nat, j ≤ 4 → vp_in (x3 + Int32.ofNat j) L) (h0 : ∃ fs, h 0 = some (.inr (5, fs))) (hcu : cu ≤ 600000) (hsu : su ≤ 7302250) (hR : xSameI xmX5_symmetry xmX6_symmetry Rel N [.int (xs (x3 + 1).toNatClampNeg), .int (xs (x3 + 2).toNatClampNeg)] h) (hP : xP g N h H) (hS : va_S (xA g) s.heap H locs) (hl : lv_has ls 4 [(0, .ref b), (1, .ref (g.2.2 + 0)), (2, .ref (g.2.2 + 64)), (3, .int x3)])
    (kk : ∀ (h' : xHp) (H1 : Heap) (locs1 : List Loc), Rel h' → xP g N h' H1 → va_S (xA g) s.heap H1 locs1 → W p l e room_1 s m #[Value.ref b] below meth c H1 locs1 cu su Qf (F0 m 767 ls [])) : W p l e room_1 s m #[Value.ref b] below meth c H locs cu su Qf (F0 m 675 ls []) := by
  have C' := C
  obtain ⟨⟨hx, hb, hr, hml, hown, hts, hX, hbl, hlocks, hgv⟩, hK, hN, hz⟩ := C
  have hbA : ¬ (xA g) b := by unfold xA; rw [hz]; exact Nat.not_le.mpr hbl
  obtain ⟨fs0, h0⟩ := h0
  refine lv_aload_n hx hb dL_675 rfl (lv_at hl 1 rfl) ?_
  refine lv_aload_n hx hb dL_676 rfl (lv_at hl 0 rfl) ?_
  refine lv_iload_n hx hb dL_677 rfl (lv_at hl 3 rfl) ?_
  refine lv_iconst (v := 1) hx hb dL_678 (by decide) ?_
  refine lv_iadd hx hb dL_679 ?_
  refine va_sld hx hb hX hbl hbA hS (hin 1 (by decide)) dL_680 ?_
  refine lv_aload_n hx hb dL_681 rfl (lv_at hl 0 rfl) ?_
  refine lv_iload_n hx hb dL_682 rfl (lv_at hl 3 rfl) ?_
  refine lv_iconst (v := 2) hx hb dL_683 (by decide) ?_
  refine lv_iadd hx hb dL_684 ?_
  refine va_sld hx hb hX hbl hbA hS (hin 2 (by decide)) dL_685 ?_
  refine w_callV (M' := xmX5_symmetry) (bb := 79) (hh := 538) (av := [.int (xs (x3 + 1).toNatClampNeg), .int (xs (x3 + 2).toNatClampNeg)]) (rest := []) C' rfl rfl (by decide +kernel) hP hS h0 rfl hR rfl hl.1 rfl dL_686 (by decide) hcu hsu (by decide) ?_
  rintro r n1 h1 H1 locs1 ⟨rfl, ⟨fs64, h64⟩, v, rfl, hR2⟩ hP1 hS1
  have hS := hS1
  refine lv_aload_n hx hb dL_689 rfl (lv_at hl 2 rfl) ?_
  refine lv_aload_n hx hb dL_690 rfl (lv_at hl 0 rfl) ?_
  refine lv_iload_n hx hb dL_691 rfl (lv_at hl 3 rfl) ?_
  refine lv_iconst (v := 1) hx hb dL_692 (by decide) ?_
  refine lv_iadd hx hb dL_693 ?_
  refine va_sld hx hb hX hbl hbA hS (hin 1 (by decide)) dL_694 ?_
  refine lv_aload_n hx hb dL_695 rfl (lv_at hl 0 rfl) ?_
  refine lv_iload_n hx hb dL_696 rfl (lv_at hl 3 rfl) ?_
  refine lv_iconst (v := 2) hx hb dL_697 (by decide) ?_
  refine lv_iadd hx hb dL_698 ?_
  refine va_sld hx hb hX hbl hbA hS (hin 2 (by decide)) dL_699 ?_
  refine w_callV (M' := xmX6_symmetry) (bb := 138) (hh := 906) (av := [.int (xs (x3 + 1).toNatClampNeg), .int (xs (x3 + 2).toNatClampNeg)]) (rest := [.int v]) C' rfl rfl (by decide +kernel) hP1 hS1 h64 rfl hR2 rfl hl.1 rfl dL_700 (Nat.le_of_ble_eq_true rfl) hcu hsu (by decide) ?_
  rintro r2 n2 h2 H2 locs2 ⟨rfl, rfl, hRel⟩ hP2 hS2
  exact lv_icmp_eq (tgt := 767) hx hb dL_703 (by decide) (fun _ => kk h2 H2 locs2 hRel hP2 hS2) (fun hne => absurd rfl hne)
theorem lw_case19 {p : Program} {l : Launch} {e : Env} {s : State} {m : MethodId} {below : List Frame} {meth : Method} {c : Code} {b L : Nat} {xs : Nat → Int32} {g : xG} {Rel : xHp → Prop} {N cu su : Nat} {x3 : Int32} {h : xHp} {H : Heap} {locs : List Loc} {ls : Array Slot} {Qf : State → Prop} (C : lw_C p s m meth c b L xs g) (hin : ∀ j : Nat, j ≤ 4 → vp_in (x3 + Int32.ofNat j) L) (h0 : ∃ fs, h 0 = some (.inr (5, fs))) (hcu : cu ≤ 600000) (hsu : su ≤ 7302250) (hR : xSameI xmX5_turn xmX6_turn Rel N [.int (xs (x3 + 1).toNatClampNeg)] h) (hP : xP g N h H) (hS : va_S (xA g) s.heap H locs) (hl : lv_has ls 4 [(0, .ref b), (1, .ref (g.2.2 + 0)), (2, .ref (g.2.2 + 64)), (3, .int x3)])
    (kk : ∀ (h' : xHp) (H1 : Heap) (locs1 : List Loc), Rel h' → xP g N h' H1 → va_S (xA g) s.heap H1 locs1 → W p l e room_1 s m #[Value.ref b] below meth c H1 locs1 cu su Qf (F0 m 767 ls [])) : W p l e room_1 s m #[Value.ref b] below meth c H locs cu su Qf (F0 m 708 ls []) := by
  have C' := C
  obtain ⟨⟨hx, hb, hr, hml, hown, hts, hX, hbl, hlocks, hgv⟩, hK, hN, hz⟩ := C
  have hbA : ¬ (xA g) b := by unfold xA; rw [hz]; exact Nat.not_le.mpr hbl
  obtain ⟨fs0, h0⟩ := h0
  refine lv_aload_n hx hb dL_708 rfl (lv_at hl 1 rfl) ?_
  refine lv_aload_n hx hb dL_709 rfl (lv_at hl 0 rfl) ?_
  refine lv_iload_n hx hb dL_710 rfl (lv_at hl 3 rfl) ?_
  refine lv_iconst (v := 1) hx hb dL_711 (by decide) ?_
  refine lv_iadd hx hb dL_712 ?_
  refine va_sld hx hb hX hbl hbA hS (hin 1 (by decide)) dL_713 ?_
  refine w_callV (M' := xmX5_turn) (bb := 80) (hh := 550) (av := [.int (xs (x3 + 1).toNatClampNeg)]) (rest := []) C' rfl rfl (by decide +kernel) hP hS h0 rfl hR rfl hl.1 rfl dL_714 (by decide) hcu hsu (by decide) ?_
  rintro r n1 h1 H1 locs1 ⟨rfl, ⟨fs64, h64⟩, v, rfl, hR2⟩ hP1 hS1
  have hS := hS1
  refine lv_aload_n hx hb dL_717 rfl (lv_at hl 2 rfl) ?_
  refine lv_aload_n hx hb dL_718 rfl (lv_at hl 0 rfl) ?_
  refine lv_iload_n hx hb dL_719 rfl (lv_at hl 3 rfl) ?_
  refine lv_iconst (v := 1) hx hb dL_720 (by decide) ?_
  refine lv_iadd hx hb dL_721 ?_
  refine va_sld hx hb hX hbl hbA hS (hin 1 (by decide)) dL_722 ?_
  refine w_callV (M' := xmX6_turn) (bb := 139) (hh := 914) (av := [.int (xs (x3 + 1).toNatClampNeg)]) (rest := [.int v]) C' rfl rfl (by decide +kernel) hP1 hS1 h64 rfl hR2 rfl hl.1 rfl dL_723 (Nat.le_of_ble_eq_true rfl) hcu hsu (by decide) ?_
  rintro r2 n2 h2 H2 locs2 ⟨rfl, rfl, hRel⟩ hP2 hS2
  exact lv_icmp_eq (tgt := 767) hx hb dL_726 (by decide) (fun _ => kk h2 H2 locs2 hRel hP2 hS2) (fun hne => absurd rfl hne)
theorem lw_case20 {p : Program} {l : Launch} {e : Env} {s : State} {m : MethodId} {below : List Frame} {meth : Method} {c : Code} {b L : Nat} {xs : Nat → Int32} {g : xG} {Rel : xHp → Prop} {N cu su : Nat} {x3 : Int32} {h : xHp} {H : Heap} {locs : List Loc} {ls : Array Slot} {Qf : State → Prop} (C : lw_C p s m meth c b L xs g) (hin : ∀ j : Nat, j ≤ 4 → vp_in (x3 + Int32.ofNat j) L) (h0 : ∃ fs, h 0 = some (.inr (5, fs))) (hcu : cu ≤ 600000) (hsu : su ≤ 7302250) (hR : xSameI xmX5_order xmX6_order Rel N [.int (xs (x3 + 1).toNatClampNeg)] h) (hP : xP g N h H) (hS : va_S (xA g) s.heap H locs) (hl : lv_has ls 4 [(0, .ref b), (1, .ref (g.2.2 + 0)), (2, .ref (g.2.2 + 64)), (3, .int x3)])
    (kk : ∀ (h' : xHp) (H1 : Heap) (locs1 : List Loc), Rel h' → xP g N h' H1 → va_S (xA g) s.heap H1 locs1 → W p l e room_1 s m #[Value.ref b] below meth c H1 locs1 cu su Qf (F0 m 767 ls [])) : W p l e room_1 s m #[Value.ref b] below meth c H locs cu su Qf (F0 m 731 ls []) := by
  have C' := C
  obtain ⟨⟨hx, hb, hr, hml, hown, hts, hX, hbl, hlocks, hgv⟩, hK, hN, hz⟩ := C
  have hbA : ¬ (xA g) b := by unfold xA; rw [hz]; exact Nat.not_le.mpr hbl
  obtain ⟨fs0, h0⟩ := h0
  refine lv_aload_n hx hb dL_731 rfl (lv_at hl 1 rfl) ?_
  refine lv_aload_n hx hb dL_732 rfl (lv_at hl 0 rfl) ?_
  refine lv_iload_n hx hb dL_733 rfl (lv_at hl 3 rfl) ?_
  refine lv_iconst (v := 1) hx hb dL_734 (by decide) ?_
  refine lv_iadd hx hb dL_735 ?_
  refine va_sld hx hb hX hbl hbA hS (hin 1 (by decide)) dL_736 ?_
  refine w_callV (M' := xmX5_order) (bb := 81) (hh := 561) (av := [.int (xs (x3 + 1).toNatClampNeg)]) (rest := []) C' rfl rfl (by decide +kernel) hP hS h0 rfl hR rfl hl.1 rfl dL_737 (by decide) hcu hsu (by decide) ?_
  rintro r n1 h1 H1 locs1 ⟨rfl, ⟨fs64, h64⟩, v, rfl, hR2⟩ hP1 hS1
  have hS := hS1
  refine lv_aload_n hx hb dL_740 rfl (lv_at hl 2 rfl) ?_
  refine lv_aload_n hx hb dL_741 rfl (lv_at hl 0 rfl) ?_
  refine lv_iload_n hx hb dL_742 rfl (lv_at hl 3 rfl) ?_
  refine lv_iconst (v := 1) hx hb dL_743 (by decide) ?_
  refine lv_iadd hx hb dL_744 ?_
  refine va_sld hx hb hX hbl hbA hS (hin 1 (by decide)) dL_745 ?_
  refine w_callV (M' := xmX6_order) (bb := 140) (hh := 918) (av := [.int (xs (x3 + 1).toNatClampNeg)]) (rest := [.int v]) C' rfl rfl (by decide +kernel) hP1 hS1 h64 rfl hR2 rfl hl.1 rfl dL_746 (Nat.le_of_ble_eq_true rfl) hcu hsu (by decide) ?_
  rintro r2 n2 h2 H2 locs2 ⟨rfl, rfl, hRel⟩ hP2 hS2
  exact lv_icmp_eq (tgt := 767) hx hb dL_749 (by decide) (fun _ => kk h2 H2 locs2 hRel hP2 hS2) (fun hne => absurd rfl hne)
theorem lw_case21 {p : Program} {l : Launch} {e : Env} {s : State} {m : MethodId} {below : List Frame} {meth : Method} {c : Code} {b L : Nat} {xs : Nat → Int32} {g : xG} {Rel : xHp → Prop} {N cu su : Nat} {x3 : Int32} {h : xHp} {H : Heap} {locs : List Loc} {ls : Array Slot} {Qf : State → Prop} (C : lw_C p s m meth c b L xs g) (hin : ∀ j : Nat, j ≤ 4 → vp_in (x3 + Int32.ofNat j) L) (h0 : ∃ fs, h 0 = some (.inr (5, fs))) (hcu : cu ≤ 600000) (hsu : su ≤ 7302250) (hR : xSameI xmX5_regular xmX6_regular Rel N [] h) (hP : xP g N h H) (hS : va_S (xA g) s.heap H locs) (hl : lv_has ls 4 [(0, .ref b), (1, .ref (g.2.2 + 0)), (2, .ref (g.2.2 + 64)), (3, .int x3)])
    (kk : ∀ (h' : xHp) (H1 : Heap) (locs1 : List Loc), Rel h' → xP g N h' H1 → va_S (xA g) s.heap H1 locs1 → W p l e room_1 s m #[Value.ref b] below meth c H1 locs1 cu su Qf (F0 m 767 ls [])) : W p l e room_1 s m #[Value.ref b] below meth c H locs cu su Qf (F0 m 754 ls []) := by
  have C' := C
  obtain ⟨⟨hx, hb, hr, hml, hown, hts, hX, hbl, hlocks, hgv⟩, hK, hN, hz⟩ := C
  have hbA : ¬ (xA g) b := by unfold xA; rw [hz]; exact Nat.not_le.mpr hbl
  obtain ⟨fs0, h0⟩ := h0
  refine lv_aload_n hx hb dL_754 rfl (lv_at hl 1 rfl) ?_
  refine w_callV (M' := xmX5_regular) (bb := 82) (hh := 574) (av := []) (rest := []) C' rfl rfl (by decide +kernel) hP hS h0 rfl hR rfl hl.1 rfl dL_755 (by decide) hcu hsu (by decide) ?_
  rintro r n1 h1 H1 locs1 ⟨rfl, ⟨fs64, h64⟩, v, rfl, hR2⟩ hP1 hS1
  have hS := hS1
  refine lv_aload_n hx hb dL_758 rfl (lv_at hl 2 rfl) ?_
  refine w_callV (M' := xmX6_regular) (bb := 143) (hh := 922) (av := []) (rest := [.int v]) C' rfl rfl (by decide +kernel) hP1 hS1 h64 rfl hR2 rfl hl.1 rfl dL_759 (Nat.le_of_ble_eq_true rfl) hcu hsu (by decide) ?_
  rintro r2 n2 h2 H2 locs2 ⟨rfl, rfl, hRel⟩ hP2 hS2
  exact lv_icmp_eq (tgt := 767) hx hb dL_762 (by decide) (fun _ => kk h2 H2 locs2 hRel hP2 hS2) (fun hne => absurd rfl hne)
/-- what is wanted of a relation that the calls keep -/
def xLawOK (Rel : xHp → Prop) (N : Nat) : Prop := (∀ h, Rel h → (∃ fs, h 0 = some (.inr (5, fs))) ∧ ∃ fs, h 64 = some (.inr (6, fs))) ∧ (∀ (h : xHp) (a1 a2 a3 : Int32), Rel h → xSameI xmX5_point xmX6_point Rel N [.int a1, .int a2, .int a3] h) ∧ (∀ (h : xHp), Rel h → xSameI xmX5_clear xmX6_clear Rel N [] h) ∧ (∀ (h : xHp), Rel h → xSameI xmX5_flat xmX6_flat Rel N [] h) ∧ (∀ (h : xHp), Rel h → xSameI xmX5_corners xmX6_corners Rel N [] h) ∧ (∀ (h : xHp), Rel h → xSameI xmX5_edges xmX6_edges Rel N [] h) ∧ (∀ (h : xHp), Rel h → xSameI xmX5_faces xmX6_faces Rel N [] h) ∧ (∀ (h : xHp) (a1 : Int32), Rel h → xSameI xmX5_size xmX6_size Rel N [.int a1] h) ∧ (∀ (h : xHp) (a1 a2 : Int32), Rel h → xSameI xmX5_at xmX6_at Rel N [.int a1, .int a2] h) ∧ (∀ (h : xHp) (a1 a2 : Int32), Rel h → xSameL xmX5_normal xmX6_normal Rel N [.int a1, .int a2] h) ∧ (∀ (h : xHp), Rel h → xSameL xmX5_volume xmX6_volume Rel N [] h) ∧ (∀ (h : xHp) (a1 a2 : Int32), Rel h → xSameL xmX5_middle xmX6_middle Rel N [.int a1, .int a2] h) ∧ (∀ (h : xHp) (a1 a2 a3 a4 : Int32), Rel h → xSameI xmX5_where xmX6_where Rel N [.int a1, .int a2, .int a3, .int a4] h) ∧ (∀ (h : xHp) (a1 a2 a3 a4 : Int32), Rel h → xSameI xmX5_cut xmX6_cut Rel N [.int a1, .int a2, .int a3, .int a4] h) ∧ (∀ (h : xHp) (a1 a2 a3 : Int32), Rel h → xSameL xmX5_cutAt xmX6_cutAt Rel N [.int a1, .int a2, .int a3] h) ∧ (∀ (h : xHp) (a1 a2 a3 : Int32), Rel h → xSameI xmX5_shadow xmX6_shadow Rel N [.int a1, .int a2, .int a3] h) ∧ (∀ (h : xHp) (a1 a2 a3 a4 : Int32), Rel h → xSameL xmX5_far xmX6_far Rel N [.int a1, .int a2, .int a3, .int a4] h) ∧ (∀ (h : xHp) (a1 a2 : Int32), Rel h → xSameI xmX5_way xmX6_way Rel N [.int a1, .int a2] h) ∧ (∀ (h : xHp), Rel h → xSameI xmX5_symmetries xmX6_symmetries Rel N [] h) ∧ (∀ (h : xHp) (a1 a2 : Int32), Rel h → xSameI xmX5_symmetry xmX6_symmetry Rel N [.int a1, .int a2] h) ∧ (∀ (h : xHp) (a1 : Int32), Rel h → xSameI xmX5_turn xmX6_turn Rel N [.int a1] h) ∧ (∀ (h : xHp) (a1 : Int32), Rel h → xSameI xmX5_order xmX6_order Rel N [.int a1] h) ∧ (∀ (h : xHp), Rel h → xSameI xmX5_regular xmX6_regular Rel N [] h)
