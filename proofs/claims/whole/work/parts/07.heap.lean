/-! Rules of cells and of calls -/
def xty (ci : Nat) : Nat → FieldType := match ci with
  | 0 => tyX0
  | 1 => tyX1
  | 2 => tyX2
  | 3 => tyX3
  | 4 => tyX4
  | 5 => tyX5
  | _ => tyX6
theorem xuw0 : ∀ w ∈ u_ws RX0 TX0 4, xin w = true := by decide +kernel
theorem xuw1 : ∀ w ∈ u_ws RX1 TX1 8, xin w = true := by decide +kernel
theorem xuw2 : ∀ w ∈ u_ws RX2 TX2 4, xin w = true := by decide +kernel
theorem xuw3 : ∀ w ∈ u_ws RX3 TX3 9, xin w = true := by decide +kernel
theorem xuw4 : ∀ w ∈ u_ws RX4 TX4 2, xin w = true := by decide +kernel
theorem xuw5 : ∀ w ∈ u_ws RX5 TX5 5, xin w = true := by decide +kernel
theorem xuw6 : ∀ w ∈ u_ws RX6 TX6 36, xin w = true := by decide +kernel
theorem xuw {ci : Nat} {r : vw_C} (hc : xcl[ci]? = some r) : (∀ w ∈ u_ws r.1 r.2.1 r.2.2, w ∈ xWd) ∧ (∀ k, k < r.2.2 → parseFieldDescriptor (r.2.1 k).2.2.1 = some (xty ci k)) ∧ (∀ a, a < r.2.2 → ∀ b, b < r.2.2 → a ≠ b → (r.2.1 a).2.1 ≠ (r.2.1 b).2.1) := by
  match ci, hc with
  | 0, hc => cases hc; exact ⟨fun w hw => xin_mem (xuw0 w hw), tyX0_ok, nmX0⟩
  | 1, hc => cases hc; exact ⟨fun w hw => xin_mem (xuw1 w hw), tyX1_ok, nmX1⟩
  | 2, hc => cases hc; exact ⟨fun w hw => xin_mem (xuw2 w hw), tyX2_ok, nmX2⟩
  | 3, hc => cases hc; exact ⟨fun w hw => xin_mem (xuw3 w hw), tyX3_ok, nmX3⟩
  | 4, hc => cases hc; exact ⟨fun w hw => xin_mem (xuw4 w hw), tyX4_ok, nmX4⟩
  | 5, hc => cases hc; exact ⟨fun w hw => xin_mem (xuw5 w hw), tyX5_ok, nmX5⟩
  | 6, hc => cases hc; exact ⟨fun w hw => xin_mem (xuw6 w hw), tyX6_ok, nmX6⟩
  | k + 7, hc => simp [xcl] at hc
def xfin (M : xM) (ci b : Nat) : Bool := match xcl[ci]? with
  | some r => !(r.2.1 b).2.2.2 || (decide (M.1.2.1.name = "<init>") && decide ((r.2.1 b).1 = M.1.2.1.cls))
  | none => false
theorem xr_nar {ty : FieldType} {v : Value} (z : Nat) (h : narrow ty v = v) : narrow ty (xr z v) = xr z v := by
  cases v with
  | ref a => cases ty <;> rfl
  | _ => exact h
theorem xr_fit {ty : FieldType} {v : Value} (z : Nat) (h : fits ty v = true) : fits ty (xr z v) = true := by
  cases v with
  | ref a => cases ty <;> first | exact h | (simp [fits] at h)
  | _ => exact h
theorem xat_get {α : Type} : ∀ (l : List α) (k : Nat), xat l k = l[k]?
  | [], k => by simp [xat]
  | b :: t, 0 => by simp [xat]
  | b :: t, k + 1 => by simp [xat, xat_get t k]
section XH
variable {M : xM} {B : xB} {pc nx b hh i : Nat} {a : Int} {l : xL} {st : List Value} {n : Nat} {h : xHp} {Q : xQt}
theorem tt_get {q : Nat} {fs : List Value} {v : Value} (hf : xfe M pc = some (.getfield i, nx, a, b, hh)) (hq : h q = some (.inr (a.toNat, fs))) (hv : xat fs b = some v) (k : xT M B nx l (v :: st) n h Q) : xT M B pc l (.ref q :: st) n h Q := by
  intro g p l0 e s m args below meth c H locs ls C hP hS hL
  obtain ⟨hx, hb, hml, hown, hts, hr, hlk, hnm, hK, hN, hG, hz⟩ := id C
  obtain ⟨hd, hnx, hsp, hix⟩ := xfe_ok hG hf
  subst hnx
  simp only [xsp] at hsp
  rw [xat_get] at hv
  cases hc : xcl[a.toNat]? with
  | none => rw [hc] at hsp; cases hsp
  | some r =>
    rw [hc] at hsp
    simp only [Bool.and_eq_true, decide_eq_true_eq] at hsp
    obtain ⟨w1, w2, w3⟩ := xuw hc
    exact va_get hx hb hts w1 hown hK hP.2.2 q (hP.get hq) hc b hsp.1 (hts _ (xat1_mem hsp.2)) (fun _ h9 => h9) (by rw [List.getElem?_map, hv]; rfl) hd (k g p l0 e s m args below meth c H locs ls C hP hS hL)
def xset : List Value → Nat → Value → List Value
  | [], _, _ => []
  | _ :: t, 0, v => v :: t
  | u :: t, k + 1, v => u :: xset t k v
theorem xset_eq : ∀ (l : List Value) (k : Nat) (v : Value), xset l k v = l.set k v
  | [], k, v => by simp [xset]
  | u :: t, 0, v => by simp [xset]
  | u :: t, k + 1, v => by simp [xset, xset_eq t k v]
theorem tt_put {q : Nat} {fs fs' : List Value} {v : Value} (hf : xfe M pc = some (.putfield i, nx, a, b, hh)) (hq : h q = some (.inr (a.toNat, fs))) (hl : Nat.blt b fs.length = true) (hfin : xfin M a.toNat b = true) (hn : narrow (xty a.toNat b) v = v) (hft : fits (xty a.toNat b) v = true) (hs : xset fs b v = fs') (k : xT M B nx l st n (xup h q (.inr (a.toNat, fs'))) Q) : xT M B pc l (v :: .ref q :: st) n h Q := by
  intro g p l0 e s m args below meth c H locs ls C hP hS hL
  obtain ⟨hx, hb, hml, hown, hts, hr, hlk, hnm, hK, hN, hG, hz⟩ := id C
  obtain ⟨hd, hnx, hsp, hix⟩ := xfe_ok hG hf
  subst hnx
  rw [xset_eq] at hs
  subst hs
  have hl : b < fs.length := Nat.blt_eq.mp hl
  simp only [xsp] at hsp
  generalize hci : a.toNat = ci at *
  have hn' := xr_nar g.2.2 hn
  have hft' := xr_fit g.2.2 hft
  have hD := xW_D g n h
  unfold xfin at hfin
  cases hc : xcl[ci]? with
  | none => rw [hc] at hsp; cases hsp
  | some r =>
    rw [hc] at hsp hfin
    simp only [Bool.and_eq_true, decide_eq_true_eq] at hsp
    obtain ⟨w1, w2, w3⟩ := xuw hc
    have hap := va_apart (own := M.1.2.1.cls) hts w1 _ w2 w3 hK hc
    obtain ⟨r', h1, cell, q1, q2, q3, q4⟩ := hP.2.2 q _ (hP.get hq)
    have hr' : r' = r := Option.some.inj (h1.symm.trans hc)
    subst hr'
    obtain ⟨hSl, hfc, kC, hkC, hkind⟩ := hK.1 ci _ hc
    obtain ⟨cf, kf, fi, f, hi, hsl⟩ := hSl b hsp.1
    have hlay := hts _ (w1 _ (u_in_lay hsp.1))
    have hst := (u_facts hfc hkC (u_lays hts w1 hsp.1) hi).1
    have hlink := hts _ (xat1_mem hsp.2)
    have fin : ∀ H' : Heap, H'[g.2.2 + q]? = some (cell.setSlot f.slot (xr g.2.2 v)) → H'.size = H.size → (∀ q0, q0 ≠ g.2.2 + q → H'[q0]? = H[q0]?) → W p l0 e (xR B.1 B.2.1 B.2.2.1) s m args below meth c H' (locs ++ [⟨g.2.2 + q, f.slot⟩]) B.2.2.2.1 B.2.2.2.2 (MQ below (xQ g Q) args s B.2.1 B.2.2.1 (xA g)) (F0 m (pc + 3) ls (st.map (xr g.2.2))) := by
      intro H' e1 e2 e3
      refine k g p l0 e s m args below meth c H' _ ls C (hP.put hq e2 ?_ e3) (hS.put e2 e3 (Nat.le_add_right _ _)) hL
      rw [hsl] at e1
      refine ⟨_, hc, t_OB.to (V := updV (vp_V (fs.map (xr g.2.2))) b (xr g.2.2 v)) ⟨_, e1, q2, q3, t_set q4 hap hsp.1 _⟩ (fun j _ => ?_)⟩
      rw [vp_updV_set (by rw [List.length_map]; exact hl), List.map_set]
    unfold u_lay at hlay
    by_cases hfb : (r'.2.1 b).2.2.2 = true
    · rw [if_pos hfb] at hlay
      simp only [hfb, Bool.not_true, Bool.false_or, Bool.and_eq_true, decide_eq_true_eq] at hfin
      have hcf : m.cls = cf := by
        obtain ⟨_, _, c', _, _, _, -, -, hf', -, -, -, hown2, -⟩ := Cond.laysFinal_spec hlay
        have e1 : c' = cf := by have := hi.symm.trans hf'; simp at this; exact this.1.symm
        rw [hfin.2] at hown2
        rw [← e1]; exact Option.some.inj (hown.symm.trans hown2)
      have h6 := u_fits hfc hkC hkind (Or.inr hlay) hi (w2 b hsp.1) hn' hft'
      exact W.putFinK hx hb hown hlink hi hst hcf (hnm.trans hfin.1) (by rw [q2]; exact h6) q1 q3 (by rw [hsl]; exact k2_hasslot (q4 b hsp.1)) rfl rfl hd fin
    · rw [if_neg hfb] at hlay
      have h6 := u_store hfc hkC hkind hlay hi (w2 b hsp.1) hn' hft'
      exact W.putK hx hb (f := f) ⟨hown, hlink, ⟨_, _, _, hi⟩, hst⟩ (by rw [q2]; exact h6) q1 q3 (by rw [hsl]; exact k2_hasslot (q4 b hsp.1)) rfl rfl hd fin
theorem tt_iald {q N : Nat} {f : Nat → Int32} {x : Int32} (hf : xfe M pc = some (.iaload, nx, a, b, hh)) (hq : h q = some (.inl (N, .inl f))) (hi : vp_in x N) (k : xT M B nx l (.int (f x.toNatClampNeg) :: st) n h Q) : xT M B pc l (.int x :: .ref q :: st) n h Q := by
  intro g p l0 e s m args below meth c H locs ls C hP hS hL
  obtain ⟨hx, hb, hml, hown, hts, hr, hlk, hnm, hK, hN, hG, hz⟩ := id C
  obtain ⟨hd, hnx, hsp, hix⟩ := xfe_ok hG hf
  subst hnx
  exact va_iald hx hb hK hP.2.2 q 0 (hP.get hq) rfl hi hd (k g p l0 e s m args below meth c H locs ls C hP hS hL)
theorem tt_lald {q N : Nat} {f : Nat → Int64} {x : Int32} (hf : xfe M pc = some (.laload, nx, a, b, hh)) (hq : h q = some (.inl (N, .inr (.inl f)))) (hi : vp_in x N) (k : xT M B nx l (.long (f x.toNatClampNeg) :: st) n h Q) : xT M B pc l (.int x :: .ref q :: st) n h Q := by
  intro g p l0 e s m args below meth c H locs ls C hP hS hL
  obtain ⟨hx, hb, hml, hown, hts, hr, hlk, hnm, hK, hN, hG, hz⟩ := id C
  obtain ⟨hd, hnx, hsp, hix⟩ := xfe_ok hG hf
  subst hnx
  exact va_lald hx hb hK hP.2.2 q 1 (hP.get hq) rfl hi hd (k g p l0 e s m args below meth c H locs ls C hP hS hL)
theorem tt_aald {q N r : Nat} {f : Nat → Option Nat} {x : Int32} (hf : xfe M pc = some (.aaload, nx, a, b, hh)) (hq : h q = some (.inl (N, .inr (.inr (.inr (.inr f)))))) (hi : vp_in x N) (hv : f x.toNatClampNeg = some r) (k : xT M B nx l (.ref r :: st) n h Q) : xT M B pc l (.int x :: .ref q :: st) n h Q := by
  intro g p l0 e s m args below meth c H locs ls C hP hS hL
  obtain ⟨hx, hb, hml, hown, hts, hr, hlk, hnm, hK, hN, hG, hz⟩ := id C
  obtain ⟨hd, hnx, hsp, hix⟩ := xfe_ok hG hf
  subst hnx
  refine va_aldq hx hb hK hP.2.2 q 2 (hP.get hq) rfl hi hd ?_
  have hk := k g p l0 e s m args below meth c H locs ls C hP hS hL
  simp only [hv]
  exact hk
theorem tt_iast {q N : Nat} {f : Nat → Int32} {x y : Int32} (hf : xfe M pc = some (.iastore, nx, a, b, hh)) (hq : h q = some (.inl (N, .inl f))) (hi : vp_in x N) (k : xT M B nx l st n (xup h q (.inl (N, .inl (upd f x.toNatClampNeg y)))) Q) : xT M B pc l (.int y :: .int x :: .ref q :: st) n h Q := by
  intro g p l0 e s m args below meth c H locs ls C hP hS hL
  obtain ⟨hx, hb, hml, hown, hts, hr, hlk, hnm, hK, hN, hG, hz⟩ := id C
  obtain ⟨hd, hnx, hsp, hix⟩ := xfe_ok hG hf
  subst hnx
  refine W.iast hx hb (hP.2.2 q _ (hP.get hq)) ((hK.2 0 _ rfl).1 N (fun j => .int (f j))) (fun q => by cases q) (by show ¬ (x < 0 ∨ (arrV _ _ _).slots.size ≤ _); rw [arrV_size]; exact hi) rfl rfl hd fun H1 e1 e2 e3 => ?_
  refine k g p l0 e s m args below meth c H1 _ ls C (hP.put hq e2 ?_ e3) (hS.put e2 e3 (Nat.le_add_right _ _)) hL
  show H1[_]? = some (vp_cell _ _)
  rw [e1, vp_cell_i, vp_cell_i, arrV_store]
  congr 2
  funext j
  by_cases hj : j = x.toNatClampNeg
  · subst hj
    simp [updV, upd]
  · simp [updV, upd, hj]
theorem tt_last {q N : Nat} {f : Nat → Int64} {x : Int32} {y : Int64} (hf : xfe M pc = some (.lastore, nx, a, b, hh)) (hq : h q = some (.inl (N, .inr (.inl f)))) (hi : vp_in x N) (k : xT M B nx l st n (xup h q (.inl (N, .inr (.inl (vp_updL f x.toNatClampNeg y))))) Q) : xT M B pc l (.long y :: .int x :: .ref q :: st) n h Q := by
  intro g p l0 e s m args below meth c H locs ls C hP hS hL
  obtain ⟨hx, hb, hml, hown, hts, hr, hlk, hnm, hK, hN, hG, hz⟩ := id C
  obtain ⟨hd, hnx, hsp, hix⟩ := xfe_ok hG hf
  subst hnx
  refine W.last hx hb (hP.2.2 q _ (hP.get hq)) ((hK.2 1 _ rfl).1 N (fun j => .long (f j))) (fun q => by cases q) (by show ¬ (x < 0 ∨ (arrV _ _ _).slots.size ≤ _); rw [arrV_size]; exact hi) rfl rfl hd fun H1 e1 e2 e3 => ?_
  refine k g p l0 e s m args below meth c H1 _ ls C (hP.put hq e2 ?_ e3) (hS.put e2 e3 (Nat.le_add_right _ _)) hL
  show H1[_]? = some (vp_cell _ _)
  rw [e1, vp_cell_l, vp_cell_l, arrV_store]
  congr 2
  funext j
  by_cases hj : j = x.toNatClampNeg
  · subst hj
    simp [updV, vp_updL]
  · simp [updV, vp_updL, hj]
theorem tt_aast {q N r : Nat} {f : Nat → Option Nat} {x : Int32} {vs : List Value} (hf : xfe M pc = some (.aastore, nx, a, b, hh)) (hq : h q = some (.inl (N, .inr (.inr (.inr (.inr f)))))) (hi : vp_in x N) (hv : h r = some (.inr (3, vs))) (k : xT M B nx l st n (xup h q (.inl (N, .inr (.inr (.inr (.inr (va_up f x.toNatClampNeg (some r)))))))) Q) : xT M B pc l (.ref r :: .int x :: .ref q :: st) n h Q := by
  intro g p l0 e s m args below meth c H locs ls C hP hS hL
  obtain ⟨hx, hb, hml, hown, hts, hr, hlk, hnm, hK, hN, hG, hz⟩ := id C
  obtain ⟨hd, hnx, hsp, hix⟩ := xfe_ok hG hf
  subst hnx
  have hlt : x.toNatClampNeg < N := Nat.not_le.mp fun q => hi (Or.inr q)
  have h0 : ¬ x < 0 := fun q => hi (Or.inl q)
  obtain ⟨r', hr', cellV, g1, g2, g3, -⟩ := hP.2.2 r _ (hP.get hv)
  have hcls := (hK.1 3 (RX3, TX3, 9) rfl).2
  obtain ⟨kA, comp, k1, k2, k3, -⟩ := (hK.2 2 _ rfl).2
  have hcomp : comp = g.1.1 3 := Option.some.inj (k3.symm.trans hcls.1)
  subst hcomp
  obtain ⟨kC, hkC, -⟩ := hcls.2
  refine W.aast hx hb (hP.2.2 q _ (hP.get hq)) (fun q h => by cases h) (fun h => by cases h) k1 k2 rfl hkC ⟨h0, by show _ < (arrV _ _ _).slots.size; rw [arrV_size]; exact hlt⟩ g1 (fun q h => by rw [g3] at h; cases h) (by rw [g2]; exact hkC) (by rw [g2]; exact va_assign hcls) rfl rfl hd fun H1 e1 e2 e3 => ?_
  refine k g p l0 e s m args below meth c H1 _ ls C (hP.put hq e2 ?_ e3) (hS.put e2 e3 (Nat.le_add_right _ _)) hL
  show H1[_]? = some (vp_cell _ _)
  rw [e1, vp_cell_q, vp_cell_q, arrV_store]
  congr 2
  funext j
  by_cases hj : j = x.toNatClampNeg
  · subst hj
    simp [updV, va_up, va_rf]
  · simp [updV, va_up, hj]
theorem xr_def (z : Nat) (ty : FieldType) : xr z (defaultValue ty) = defaultValue ty := by cases ty <;> rfl
/-- making cells -/
theorem tt_new {r : vw_C} {fs : List Value} (hf : xfe M pc = some (.new i, nx, a, b, hh)) (hc : xcl[a.toNat]? = some r) (hfs : (List.range r.2.2).map (fun j => defaultValue (xty a.toNat j)) = fs) (h1 : B.2.2.2.1 + 1 ≤ B.2.1) (h2 : B.2.2.2.2 + r.2.2 ≤ B.2.2.1)
    (k : xT M (B.1, B.2.1, B.2.2.1, B.2.2.2.1 + 1, B.2.2.2.2 + r.2.2) nx l (.ref n :: st) (n + 1) (xup h n (.inr (a.toNat, fs))) Q) : xT M B pc l st n h Q := by
  intro g p l0 e s m args below meth c H locs ls C hP hS hL
  obtain ⟨hx, hb, hml, hown, hts, hr, hlk, hnm, hK, hN, hG, hz⟩ := id C
  obtain ⟨hd, hnx, hsp, hix⟩ := xfe_ok hG hf
  subst hnx
  simp only [xsp, hc, Bool.and_eq_true] at hsp
  obtain ⟨w1, w2, w3⟩ := xuw hc
  have hKn := hK.1 a.toNat _ hc
  refine W.newcK hx hb hown (hts _ (xat1_mem hsp.1.1)) (hts _ (xin_mem hsp.1.2)) (hts _ (xin_mem hsp.2)) rfl hd h1 h2 hKn.2.1 hP.1 fun H1 kC hkC e1 z1 o1 => ?_
  refine k g p l0 e s m args below meth c H1 locs ls C (hP.push (by rw [z1, hP.1]) ?_ (fun q hq => o1 q (by rw [← hP.1]; exact hq))) ⟨Nat.le_trans hS.1 (by rw [hP.1, z1]; omega), fun x h1 h2 => (o1 x (by rw [← hP.1]; exact Nat.lt_of_lt_of_le h1 hS.1)).trans (hS.2.1 x h1 h2), hS.2.2⟩ hL
  refine ⟨_, hc, (u_born _ hts w1 hKn hkC e1 w2).to fun j hj => ?_⟩
  subst hfs
  simp only [vp_V, List.getD_eq_getElem?_getD, List.getElem?_map, List.getElem?_range hj, Option.map_some, Option.getD_some]
  exact (xr_def _ _).symm
theorem tt_newI {x : Int32} {N : Nat} (hf : xfe M pc = some (.newarray .int, nx, a, b, hh)) (hx0 : ¬ x < 0) (hxN : x.toNatClampNeg = N) (hby : N * 4 ≤ 536870912) (h1 : B.2.2.2.1 + 1 ≤ B.2.1) (h2 : B.2.2.2.2 + N ≤ B.2.2.1)
    (k : xT M (B.1, B.2.1, B.2.2.1, B.2.2.2.1 + 1, B.2.2.2.2 + N) nx l (.ref n :: st) (n + 1) (xup h n (.inl (N, .inl (fun _ => 0)))) Q) : xT M B pc l (.int x :: st) n h Q := by
  intro g p l0 e s m args below meth c H locs ls C hP hS hL
  obtain ⟨hx, hb, hml, hown, hts, hr, hlk, hnm, hK, hN, hG, hz⟩ := id C
  obtain ⟨hd, hnx, hsp, hix⟩ := xfe_ok hG hf
  subst hnx
  simp only [xsp, Bool.and_eq_true] at hsp
  refine va_newaK hx hb (hts _ (xin_mem hsp.1)) rfl hd rfl hx0 hxN hby h1 h2 hP.1 fun H1 cA e1 z1 o1 hAr hNm => ?_
  have hcA : cA = g.2.1.1 := Option.some.inj (hNm.symm.trans (hK.2 0 _ rfl).2)
  subst hcA
  exact k g p l0 e s m args below meth c H1 locs ls C (hP.push (by rw [z1, hP.1]) e1 (fun q hq => o1 q (by rw [← hP.1]; exact hq))) ⟨Nat.le_trans hS.1 (by rw [hP.1, z1]; omega), fun x h1 h2 => (o1 x (by rw [← hP.1]; exact Nat.lt_of_lt_of_le h1 hS.1)).trans (hS.2.1 x h1 h2), hS.2.2⟩ hL
theorem tt_newL {x : Int32} {N : Nat} (hf : xfe M pc = some (.newarray .long, nx, a, b, hh)) (hx0 : ¬ x < 0) (hxN : x.toNatClampNeg = N) (hby : N * 8 ≤ 536870912) (h1 : B.2.2.2.1 + 1 ≤ B.2.1) (h2 : B.2.2.2.2 + N ≤ B.2.2.1)
    (k : xT M (B.1, B.2.1, B.2.2.1, B.2.2.2.1 + 1, B.2.2.2.2 + N) nx l (.ref n :: st) (n + 1) (xup h n (.inl (N, .inr (.inl (fun _ => 0))))) Q) : xT M B pc l (.int x :: st) n h Q := by
  intro g p l0 e s m args below meth c H locs ls C hP hS hL
  obtain ⟨hx, hb, hml, hown, hts, hr, hlk, hnm, hK, hN, hG, hz⟩ := id C
  obtain ⟨hd, hnx, hsp, hix⟩ := xfe_ok hG hf
  subst hnx
  simp only [xsp, Bool.and_eq_true] at hsp
  refine va_newaK hx hb (hts _ (xin_mem hsp.1)) rfl hd rfl hx0 hxN hby h1 h2 hP.1 fun H1 cA e1 z1 o1 hAr hNm => ?_
  have hcA : cA = g.2.1.2.1 := Option.some.inj (hNm.symm.trans (hK.2 1 _ rfl).2)
  subst hcA
  exact k g p l0 e s m args below meth c H1 locs ls C (hP.push (by rw [z1, hP.1]) e1 (fun q hq => o1 q (by rw [← hP.1]; exact hq))) ⟨Nat.le_trans hS.1 (by rw [hP.1, z1]; omega), fun x h1 h2 => (o1 x (by rw [← hP.1]; exact Nat.lt_of_lt_of_le h1 hS.1)).trans (hS.2.1 x h1 h2), hS.2.2⟩ hL
theorem tt_newA {x : Int32} {N : Nat} (hf : xfe M pc = some (.anewarray i, nx, a, b, hh)) (hx0 : ¬ x < 0) (hxN : x.toNatClampNeg = N) (hby : N * 4 ≤ 536870912) (h1 : B.2.2.2.1 + 1 ≤ B.2.1) (h2 : B.2.2.2.2 + N ≤ B.2.2.1)
    (k : xT M (B.1, B.2.1, B.2.2.1, B.2.2.2.1 + 1, B.2.2.2.2 + N) nx l (.ref n :: st) (n + 1) (xup h n (.inl (N, .inr (.inr (.inr (.inr (fun _ => none))))))) Q) : xT M B pc l (.int x :: st) n h Q := by
  intro g p l0 e s m args below meth c H locs ls C hP hS hL
  obtain ⟨hx, hb, hml, hown, hts, hr, hlk, hnm, hK, hN, hG, hz⟩ := id C
  obtain ⟨hd, hnx, hsp, hix⟩ := xfe_ok hG hf
  subst hnx
  subst hxN
  refine W.anew hx hb hown (hts _ (xat1_mem hsp)) (va_AO.use hN.2) rfl hd rfl hx0 hby h1 h2 fun cA kA comp f1 f2 f3 f4 => ?_
  obtain ⟨kA', comp', -, -, -, k4⟩ := (hK.2 2 _ rfl).2
  have hcA : cA = g.2.1.2.2 := Option.some.inj (f1.symm.trans k4)
  subst hcA
  generalize hH1 : H.push ({ cls := g.2.1.2.2, slots := Array.replicate x.toNatClampNeg .null, vm := .none } : Cell) = H1
  have z1 : H1.size = H.size + 1 := by rw [← hH1, Array.size_push]
  have e1 : H1[H.size]? = some (arrV g.2.1.2.2 x.toNatClampNeg (fun _ => .null)) := by rw [← hH1, Array.getElem?_push_size, ← arrV_new]
  have o1 : ∀ q : Nat, q < H.size → H1[q]? = H[q]? := fun q hq => by rw [← hH1, Array.getElem?_push, if_neg (Nat.ne_of_lt hq)]
  rw [hP.1] at e1
  have := k g p l0 e s m args below meth c H1 locs ls C (hP.push z1 e1 o1) ⟨Nat.le_trans hS.1 (by rw [z1]; omega), fun x h1 h2 => (o1 x (Nat.lt_of_lt_of_le h1 hS.1)).trans (hS.2.1 x h1 h2), hS.2.2⟩ hL
  rw [hP.1]
  exact this
end XH
