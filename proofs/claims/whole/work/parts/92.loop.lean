theorem w_new {p : Program} {l : Launch} {e : Env} {s : State} {m : MethodId} {below : List Frame} {meth : Method} {c : Code} {b L : Nat} {xs : Nat → Int32} {g : xG} {pc i hh n ci cu su : Nat} {r : vw_C} {fs rest : List Value} {h : xHp} {H : Heap} {locs : List Loc} {ls : Array Slot} {Qf : State → Prop} (C : lw_C p s m meth c b L xs g) (hc : xcl[ci]? = some r) (hfs : (List.range r.2.2).map (fun j => defaultValue (xty ci j)) = fs) (hlink : xat1 hh (.classLink R_law i r.1) = true) (hins : xin (.instantiable r.1 r.2.2) = true) (hini : xin (.initialized r.1) = true) (hd : decode code pc = .ok (.new i, 3)) (h1 : cu + 1 ≤ 600000) (h2 : su + r.2.2 ≤ 7302250) (hP : xP g n h H) (hS : va_S (xA g) s.heap H locs)
    (kk : ∀ H1 : Heap, xP g (n + 1) (xup h n (.inr (ci, fs))) H1 → va_S (xA g) s.heap H1 locs → W p l e room_1 s m #[Value.ref b] below meth c H1 locs (cu + 1) (su + r.2.2) Qf (F0 m (pc + 3) ls (.ref (g.2.2 + n) :: rest))) : W p l e room_1 s m #[Value.ref b] below meth c H locs cu su Qf (F0 m pc ls rest) := by
  have hts := lw_Cw C
  obtain ⟨⟨hx, hb, hr, hml, hown, -, hX, hbl, hlocks, hgv⟩, hK, hN, hz⟩ := C
  obtain ⟨w1, w2, w3⟩ := xuw hc
  have hKn := hK.1 ci _ hc
  refine W.newcK hx hb hown (hts _ (xat1_mem hlink)) (hts _ (xin_mem hins)) (hts _ (xin_mem hini)) rfl hd h1 h2 hKn.2.1 hP.1 fun H1 kC hkC e1 z1 o1 => ?_
  refine kk H1 (hP.push (by rw [z1, hP.1]) ?_ (fun q hq => o1 q (by rw [← hP.1]; exact hq))) ⟨Nat.le_trans hS.1 (by rw [hP.1, z1]; omega), fun x h1 h2 => (o1 x (by rw [← hP.1]; exact Nat.lt_of_lt_of_le h1 hS.1)).trans (hS.2.1 x h1 h2), hS.2.2⟩
  refine ⟨_, hc, (u_born _ hts w1 hKn hkC e1 w2).to fun j hj => ?_⟩
  subst hfs
  simp only [vp_V, List.getD_eq_getElem?_getD, List.getElem?_map, List.getElem?_range hj, Option.map_some, Option.getD_some]
  exact (xr_def _ _).symm
set_option maxHeartbeats 2000000 in
theorem lw_loop {p : Program} {l : Launch} {e : Env} {s : State} {m : MethodId} {below : List Frame} {meth : Method} {c : Code} {b L : Nat} {xs : Nat → Int32} {g : xG} {Rel : xHp → Prop} {N cu su : Nat} (hok : xLawOK Rel N) (C : lw_C p s m meth c b L xs g) (hL : L ≤ 320) (hcu : cu ≤ 600000) (hsu : su ≤ 7302250) :
    ∀ (k i : Nat) (h : xHp) (H : Heap) (locs : List Loc) (ls : Array Slot) (x3 : Int32), i ≤ L → L + 1 ≤ i + k → x3 = nI i → Rel h → xP g N h H → va_S (xA g) s.heap H locs → lv_has ls 4 [(0, .ref b), (1, .ref (g.2.2 + 0)), (2, .ref (g.2.2 + 64)), (3, .int x3)] →
      W p l e room_1 s m #[Value.ref b] below meth c H locs cu su (lw_Z below #[Value.ref b] s) (F0 m 18 ls []) := by
  have C' := C
  obtain ⟨⟨hx, hb, hr, hml, hown, hts, hX, hbl, hlocks, hgv⟩, hK, hN, hz⟩ := C
  have hbA : ¬ (xA g) b := by unfold xA; rw [hz]; exact Nat.not_le.mpr hbl
  intro k
  induction k with
  | zero => intro i h H locs ls x3 h1 h2; exact absurd h2 (by omega)
  | succ k ih =>
    intro i h H locs ls x3 hi hik hx3 hRel hP hS hl
    refine lv_iload_n hx hb dL_18 rfl (lv_at hl 3 rfl) ?_
    refine lv_aload_n hx hb dL_19 rfl (lv_at hl 0 rfl) ?_
    refine va_slen hx hb hX hbl hbA hS dL_20 ?_
    refine lv_iconst (v := 5) hx hb dL_21 (by decide) ?_
    refine lv_isub hx hb dL_22 ?_
    have hsub : (Int32.ofNat L - 5).toInt = (L : Int) - 5 := pk_sub_toInt (a := L) (b := 5) (by omega) (by decide)
    refine lv_icmp_gt (tgt := 773) hx hb dL_23 (by decide) (fun c1 => ?_) (fun c1 => ?_)
    · refine lv_iconst (v := 1) hx hb dL_773 (by decide) ?_
      refine va_forget (fun q hq => by have := hS.2.2 q hq; unfold xA at this; rw [hz] at this; exact this) ?_
      refine W.widen (k := 600000) (n := 7302250) hcu hsu ?_
      exact lw_ret hx hb hr hlocks dL_774
    · have hle : i + 5 ≤ L := by
        rw [Int32.lt_iff_toInt_lt, hsub, hx3, nI_toInt (by omega)] at c1
        omega
      have hin : ∀ j : Nat, j ≤ 4 → vp_in (x3 + Int32.ofNat j) L := fun j hj => by
        have e1 : x3 + Int32.ofNat j = nI (i + j) := by rw [hx3]; exact nI_add i j
        rw [e1]
        exact vp_in_nI (by omega) (by omega)
      obtain ⟨z0, z64⟩ := hok.1 h hRel
      have next : ∀ (h' : xHp) (H1 : Heap) (locs1 : List Loc), Rel h' → xP g N h' H1 → va_S (xA g) s.heap H1 locs1 → W p l e room_1 s m #[Value.ref b] below meth c H1 locs1 cu su (lw_Z below #[Value.ref b] s) (F0 m 767 ls []) := by
        intro h' H1 locs1 hR1 hP1 hS1
        refine lv_iinc (v := nI (i + 5)) (lv' := [(3, .int (nI (i + 5))), (0, .ref b), (1, .ref (g.2.2 + 0)), (2, .ref (g.2.2 + 64))]) hx hb dL_767 hl (k := 3) rfl (by rw [hx3]; exact nI_add i 5) (by decide) rfl (fun ls hl => ?_)
        refine lv_goto (tgt := 18) hx hb dL_770 (by decide) ?_
        exact ih (i + 5) h' H1 locs1 ls _ hle (by omega) rfl hR1 hP1 hS1 (lv_sub hl [1, 2, 3, 0] rfl)
      refine lv_aload_n hx hb dL_26 rfl (lv_at hl 0 rfl) ?_
      refine lv_iload_n hx hb dL_27 rfl (lv_at hl 3 rfl) ?_
      refine va_sld hx hb hX hbl hbA hS (by have := hin 0 (by decide); rwa [show x3 + Int32.ofNat 0 = x3 from Int32.add_zero x3] at this) dL_28 ?_
      refine lv_bipush (v := 31) hx hb dL_29 (by decide) ?_
      refine lv_iand hx hb dL_31 ?_
      obtain ⟨j, hj, ej⟩ := pk_andE (xs x3.toNatClampNeg) (m := 31) 5 (by decide)
      rw [ej]
      obtain ⟨-, o0, o1, o2, o3, o4, o5, o6, o7, o8, o9, o10, o11, o12, o13, o14, o15, o16, o17, o18, o19, o20, o21⟩ := hok
      match j, hj with
      | 0, _ =>
        refine lv_tableIn (off := 104) (tgt := 136) hx hb dL_32 (by decide) (by decide) (by decide) (by decide) ?_
        exact lw_case0 C' hin z0 hcu hsu (o0 h _ _ _ hRel) hP hS hl next
      | 1, _ =>
        refine lv_tableIn (off := 147) (tgt := 179) hx hb dL_32 (by decide) (by decide) (by decide) (by decide) ?_
        exact lw_case1 C' hin z0 hcu hsu (o1 h hRel) hP hS hl next
      | 2, _ =>
        refine lv_tableIn (off := 160) (tgt := 192) hx hb dL_32 (by decide) (by decide) (by decide) (by decide) ?_
        exact lw_case2 C' hin z0 hcu hsu (o2 h hRel) hP hS hl next
      | 3, _ =>
        refine lv_tableIn (off := 173) (tgt := 205) hx hb dL_32 (by decide) (by decide) (by decide) (by decide) ?_
        exact lw_case3 C' hin z0 hcu hsu (o3 h hRel) hP hS hl next
      | 4, _ =>
        refine lv_tableIn (off := 186) (tgt := 218) hx hb dL_32 (by decide) (by decide) (by decide) (by decide) ?_
        exact lw_case4 C' hin z0 hcu hsu (o4 h hRel) hP hS hl next
      | 5, _ =>
        refine lv_tableIn (off := 199) (tgt := 231) hx hb dL_32 (by decide) (by decide) (by decide) (by decide) ?_
        exact lw_case5 C' hin z0 hcu hsu (o5 h hRel) hP hS hl next
      | 6, _ =>
        refine lv_tableIn (off := 212) (tgt := 244) hx hb dL_32 (by decide) (by decide) (by decide) (by decide) ?_
        exact lw_case6 C' hin z0 hcu hsu (o6 h _ hRel) hP hS hl next
      | 7, _ =>
        refine lv_tableIn (off := 235) (tgt := 267) hx hb dL_32 (by decide) (by decide) (by decide) (by decide) ?_
        exact lw_case7 C' hin z0 hcu hsu (o7 h _ _ hRel) hP hS hl next
      | 8, _ =>
        refine lv_tableIn (off := 268) (tgt := 300) hx hb dL_32 (by decide) (by decide) (by decide) (by decide) ?_
        exact lw_case8 C' hin z0 hcu hsu (o8 h _ _ hRel) hP hS hl next
      | 9, _ =>
        refine lv_tableIn (off := 302) (tgt := 334) hx hb dL_32 (by decide) (by decide) (by decide) (by decide) ?_
        exact lw_case9 C' hin z0 hcu hsu (o9 h hRel) hP hS hl next
      | 10, _ =>
        refine lv_tableIn (off := 316) (tgt := 348) hx hb dL_32 (by decide) (by decide) (by decide) (by decide) ?_
        exact lw_case10 C' hin z0 hcu hsu (o10 h _ _ hRel) hP hS hl next
      | 11, _ =>
        refine lv_tableIn (off := 350) (tgt := 382) hx hb dL_32 (by decide) (by decide) (by decide) (by decide) ?_
        exact lw_case11 C' hin z0 hcu hsu (o11 h _ _ _ _ hRel) hP hS hl next
      | 12, _ =>
        refine lv_tableIn (off := 403) (tgt := 435) hx hb dL_32 (by decide) (by decide) (by decide) (by decide) ?_
        exact lw_case12 C' hin z0 hcu hsu (o12 h _ _ _ _ hRel) hP hS hl next
      | 13, _ =>
        refine lv_tableIn (off := 456) (tgt := 488) hx hb dL_32 (by decide) (by decide) (by decide) (by decide) ?_
        exact lw_case13 C' hin z0 hcu hsu (o13 h _ _ _ hRel) hP hS hl next
      | 14, _ =>
        refine lv_tableIn (off := 500) (tgt := 532) hx hb dL_32 (by decide) (by decide) (by decide) (by decide) ?_
        exact lw_case14 C' hin z0 hcu hsu (o14 h _ _ _ hRel) hP hS hl next
      | 15, _ =>
        refine lv_tableIn (off := 543) (tgt := 575) hx hb dL_32 (by decide) (by decide) (by decide) (by decide) ?_
        exact lw_case15 C' hin z0 hcu hsu (o15 h _ _ _ _ hRel) hP hS hl next
      | 16, _ =>
        refine lv_tableIn (off := 597) (tgt := 629) hx hb dL_32 (by decide) (by decide) (by decide) (by decide) ?_
        exact lw_case16 C' hin z0 hcu hsu (o16 h _ _ hRel) hP hS hl next
      | 17, _ =>
        refine lv_tableIn (off := 630) (tgt := 662) hx hb dL_32 (by decide) (by decide) (by decide) (by decide) ?_
        exact lw_case17 C' hin z0 hcu hsu (o17 h hRel) hP hS hl next
      | 18, _ =>
        refine lv_tableIn (off := 643) (tgt := 675) hx hb dL_32 (by decide) (by decide) (by decide) (by decide) ?_
        exact lw_case18 C' hin z0 hcu hsu (o18 h _ _ hRel) hP hS hl next
      | 19, _ =>
        refine lv_tableIn (off := 676) (tgt := 708) hx hb dL_32 (by decide) (by decide) (by decide) (by decide) ?_
        exact lw_case19 C' hin z0 hcu hsu (o19 h _ hRel) hP hS hl next
      | 20, _ =>
        refine lv_tableIn (off := 699) (tgt := 731) hx hb dL_32 (by decide) (by decide) (by decide) (by decide) ?_
        exact lw_case20 C' hin z0 hcu hsu (o20 h _ hRel) hP hS hl next
      | 21, _ =>
        refine lv_tableIn (off := 722) (tgt := 754) hx hb dL_32 (by decide) (by decide) (by decide) (by decide) ?_
        exact lw_case21 C' hin z0 hcu hsu (o21 h hRel) hP hS hl next
      | j + 22, hj =>
        refine lv_tableOut (tgt := 767) hx hb dL_32 (Or.inr (by rw [nI_toInt (by omega)]; omega)) (by decide) ?_
        exact next h H locs hRel hP hS
set_option maxHeartbeats 2000000 in
/-- the law out of constructors and calls -/
theorem lw_whole {Rel Ic : xHp → Prop} {N mc1 ms1 mc2 ms2 : Nat} (hok : xLawOK Rel N) (hm : mc1 + mc2 ≤ 500000) (hs : ms1 + ms2 ≤ 7000000)
    (hI1 : xCall xmX5_init 100 mc1 ms1 [.ref 0] 1 (xup (fun _ => none) 0 (.inr (5, [.null, .null, .null, .null, .null]))) (fun r n h => r = none ∧ n = 64 ∧ Ic h))
    (hI2 : ∀ h, Ic h → xCall xmX6_init 100 mc2 ms2 [.ref 64] 65 (xup h 64 (.inr (6, (List.range 36).map (fun j => defaultValue (xty 6 j))))) (fun r n h' => r = none ∧ n = N ∧ Rel h'))
    {p : Program} {e : Env} {s : State} {m : MethodId} {below : List Frame} {meth : Method} {c : Code} (l : Launch) {b L : Nat} {xs : Nat → Int32} (hL : L ≤ 320) (C0 : lw_At p s m meth c b L xs) : W p l e room_1 s m #[Value.ref b] below meth c s.heap [] 0 0 (lw_Z below #[Value.ref b] s) (entryFrame m ([Value.ref b] : List Value).toArray 4) := by
  obtain ⟨hx, hb, hr, hml, hown, hts, hX, hbl, hlocks, hgv⟩ := id C0
  have hw : ∀ w ∈ xWd, w.before #[Value.ref b] s = true := fun w h => hts w (List.mem_filter.mp h).1
  have kn : ∀ (k : Nat) (r : vw_C), xcl[k]? = some r → ∃ (cC : ClassId) (iS : Nat → Nat), u_Kn s r.1 r.2.1 r.2.2 cC iS := by
    intro k r hk
    obtain ⟨w1, -, -⟩ := xuw hk
    refine u_known (n := r.2.2) hw w1 (hw _ ?_)
    match k, hk with
    | 0, hk => cases hk; exact xin_mem (by decide +kernel)
    | 1, hk => cases hk; exact xin_mem (by decide +kernel)
    | 2, hk => cases hk; exact xin_mem (by decide +kernel)
    | 3, hk => cases hk; exact xin_mem (by decide +kernel)
    | 4, hk => cases hk; exact xin_mem (by decide +kernel)
    | 5, hk => cases hk; exact xin_mem (by decide +kernel)
    | 6, hk => cases hk; exact xin_mem (by decide +kernel)
    | k + 7, hk => simp [xcl] at hk
  have kn2 : ∀ k : Nat, ∃ q : ClassId × (Nat → Nat), ∀ r, xcl[k]? = some r → u_Kn s r.1 r.2.1 r.2.2 q.1 q.2 := by
    intro k
    cases hk : xcl[k]? with
    | none => exact ⟨(0, fun _ => 0), fun r h => by cases h⟩
    | some r =>
      obtain ⟨cC, iS, h⟩ := kn k r hk
      exact ⟨(cC, iS), fun r' h' => by cases h'; exact h⟩
  obtain ⟨cI, kI, compI, fI, kI1, kI2⟩ := Cond.arrayClass_spec (hts (.arrayClass .int) (by decide +kernel))
  obtain ⟨cJ, kJ, compJ, fJ, kJ1, kJ2⟩ := Cond.arrayClass_spec (hts (.arrayClass .long) (by decide +kernel))
  have hAO : va_AO RX3 s := va_AO.of (hts (.arrayOver (.object RX3)) (by decide +kernel))
  obtain ⟨comp, cO, kO, o1, o2, o3, o4, o5⟩ := Cond.arrayOver_spec hAO
  have hK : va_K (fun k => (Classical.choose (kn2 k)).1, fun k => (Classical.choose (kn2 k)).2) xcl (xTy ((fun k => (Classical.choose (kn2 k)).1, fun k => (Classical.choose (kn2 k)).2), (cI, cJ, cO), s.heap.size)) s := by
    refine ⟨fun k q hq => Classical.choose_spec (kn2 k) q hq, fun k q hq => ?_⟩
    match k, hq with
    | 0, hq => cases hq; exact ⟨fun n z => ⟨fun k h => (by cases h), kI, kI1, compI, kI2⟩, fI⟩
    | 1, hq => cases hq; exact ⟨fun n z => ⟨fun k h => (by cases h), kJ, kJ1, compJ, kJ2⟩, fJ⟩
    | 2, hq => cases hq; exact ⟨fun n z => ⟨fun k h => (by cases h), kO, o3, comp, o4⟩, kO, comp, o3, o4, o1, o5⟩
    | k + 3, hq => simp [xTy] at hq
  generalize hg : ((fun k => (Classical.choose (kn2 k)).1, fun k => (Classical.choose (kn2 k)).2), (cI, cJ, cO), s.heap.size) = g at hK
  have hz : g.2.2 = s.heap.size := by rw [← hg]
  have hgK : va_K g.1 xcl (xTy g) s := by rw [← hg] at hK ⊢; exact hK
  have hN : xNw s := ⟨fun q hq => va_Nw.of rfl (hts (.methodLinkNest q.1 q.2.1 q.2.2 RX5) ((by decide +kernel : ∀ q ∈ xNs, Cond.methodLinkNest q.1 q.2.1 q.2.2 RX5 ∈ lw_tbl) q hq)), hAO⟩
  have C : lw_C p s m meth c b L xs g := ⟨C0, hgK, hN, hz⟩
  have hP0 : xP g 0 (fun _ => none) s.heap := ⟨by rw [hz]; rfl, fun _ _ => rfl, fun k q hq => by simp [xW] at hq⟩
  have hl := lv_entry ([.ref b]) (n := 4) (Nat.le_of_ble_eq_true rfl)
  rw [lg_entry_eq]
  generalize (lg_sl ([.ref b]) ++ List.replicate (4 - (lg_sl ([.ref b])).length) Slot.unset).toArray = ls at hl ⊢
  have hl : lv_has ls 4 [(0, .ref b)] := hl
  refine w_new (ci := 5) (hh := 66) C rfl rfl (by decide +kernel) (by decide +kernel) (by decide +kernel) dL_0 (by decide) (by decide) hP0 va_S.rf ?_
  intro H1 hP1 hS1
  refine lv_dup hx hb dL_3 rfl ?_
  refine w_callI (M' := xmX5_init) (bb := 51) (hh := 68) (rest := [.ref (g.2.2 + 0)]) C rfl rfl rfl (by decide +kernel) hP1 hS1 hI1 hl.1 dL_4 (Nat.le_of_ble_eq_true rfl) (by omega) (by show 0 + 5 + ms1 ≤ 7302250; omega) (by decide) ?_
  rintro r2 n2 h2 H2 locs2 ⟨rfl, rfl, hIc⟩ hP2 hS2
  refine lv_astore_n (lv' := [(1, .ref (g.2.2 + 0)), (0, .ref b)]) hx hb dL_7 rfl hl (by decide) rfl (fun ls hl => ?_)
  refine w_new (ci := 6) (hh := 578) C rfl rfl (by decide +kernel) (by decide +kernel) (by decide +kernel) dL_8 (by omega) (by show 0 + 5 + ms1 + 36 ≤ 7302250; omega) hP2 hS2 ?_
  intro H3 hP3 hS3
  refine lv_dup hx hb dL_11 rfl ?_
  refine w_callI (M' := xmX6_init) (bb := 83) (hh := 580) (rest := [.ref (g.2.2 + 64)]) C rfl rfl rfl (by decide +kernel) hP3 hS3 (hI2 h2 hIc) hl.1 dL_12 (Nat.le_of_ble_eq_true rfl) (by omega) (by show 0 + 5 + ms1 + 36 + ms2 ≤ 7302250; omega) (by decide) ?_
  rintro r4 n4 h4 H4 locs4 ⟨rfl, rfl, hRel⟩ hP4 hS4
  refine lv_astore_n (lv' := [(2, .ref (g.2.2 + 64)), (1, .ref (g.2.2 + 0)), (0, .ref b)]) hx hb dL_15 rfl hl (by decide) rfl (fun ls hl => ?_)
  refine lv_iconst (v := 0) hx hb dL_16 (by decide) ?_
  refine lv_istore_n (lv' := [(3, .int 0), (2, .ref (g.2.2 + 64)), (1, .ref (g.2.2 + 0)), (0, .ref b)]) hx hb dL_17 rfl hl (by decide) rfl (fun ls hl => ?_)
  exact lw_loop hok C hL (by omega) (by show 0 + 5 + ms1 + 36 + ms2 ≤ 7302250; omega) (L + 1) 0 h4 H4 locs4 ls 0 (by omega) (by omega) rfl hRel hP4 hS4 (lv_sub hl [3, 2, 1, 0] rfl)
