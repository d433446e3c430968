/-! Calls that change nothing; Math; arraycopy -/
def xPure (M : xM) (d : Nat) (av : List Value) (n : Nat) (h : xHp) (v : Value) : Prop := xCall M d 0 0 av n h (fun r n' h' => r = some v ∧ n' = n ∧ h' = h)
section XP
variable {M M' : xM} {d mc ms cu su d' : Nat} {pc nx b hh i : Nat} {a : Int} {l : xL} {st st' av : List Value} {n : Nat} {h : xHp} {Q : xQt} {v : Value}
theorem tt_pV {q ci : Nat} {fs : List Value} (hf : xfe M pc = some (.invokevirtual i, nx, a, b, hh)) (hM : xat xHs b = some M'.1) (hst : xtk a.toNat st' [] = some (.ref q :: av, st)) (hq : h q = some (.inr (ci, fs))) (hci : M'.1.1 = ci) (hC : xPure M' d' (.ref q :: av) n h v) (k : xT M (d, mc, ms, cu, su) nx l (v :: st) n h Q) (hd : d' + 1 ≤ d := by exact Nat.le_of_ble_eq_true rfl) (h1 : cu ≤ mc := by exact Nat.le_of_ble_eq_true rfl) (h2 : su ≤ ms := by exact Nat.le_of_ble_eq_true rfl) (hW : xcat st ≤ 20 := by exact Nat.le_of_ble_eq_true rfl) : xT M (d, mc, ms, cu, su) pc l st' n h Q :=
  tt_callV hf hM hst hq hci hC (fun r n' h' q => by obtain ⟨rfl, rfl, rfl⟩ := q; exact k) hd h1 h2 hW
theorem tt_pS (hf : xfe M pc = some (.invokestatic i, nx, a, b, hh)) (hM : xat xHs b = some M'.1) (hb1 : Nat.beq b 1001 = false) (hst : xtk a.toNat st' [] = some (av, st)) (hC : xPure M' d' av n h v) (k : xT M (d, mc, ms, cu, su) nx l (v :: st) n h Q) (hd : d' + 1 ≤ d := by exact Nat.le_of_ble_eq_true rfl) (h1 : cu ≤ mc := by exact Nat.le_of_ble_eq_true rfl) (h2 : su ≤ ms := by exact Nat.le_of_ble_eq_true rfl) (hW : xcat st ≤ 8 := by exact Nat.le_of_ble_eq_true rfl) : xT M (d, mc, ms, cu, su) pc l st' n h Q :=
  tt_callS hf hM hb1 hst hC (fun r n' h' q => by obtain ⟨rfl, rfl, rfl⟩ := q; exact k) hd h1 h2 hW
theorem xabs_code : cJ9_abs_067f4 = Lib.MathLoose.abs_long.code := by decide +kernel
theorem xmax_code : cJ9_max_f86c9 = Lib.MathLoose.max_long.code := by decide +kernel
theorem tt_abs {x : Int64} (hf : xfe M pc = some (.invokestatic i, nx, a, 144, hh)) (k : xT M (d, mc, ms, cu, su) nx l (.long (if 0 < x then x else -x) :: st) n h Q) (hd : 1 ≤ d := by exact Nat.le_of_ble_eq_true rfl) (h1 : cu ≤ mc := by exact Nat.le_of_ble_eq_true rfl) (h2 : su ≤ ms := by exact Nat.le_of_ble_eq_true rfl) (hW : xcat st ≤ 8 := by exact Nat.le_of_ble_eq_true rfl) : xT M (d, mc, ms, cu, su) pc l (.long x :: st) n h Q := by
  intro g p l0 e s m args below meth c H locs ls C hP hS hL
  obtain ⟨hx, hb, hml, hown, hts, hr, hlk, hnm, hK, hN, hG, hz⟩ := id C
  obtain ⟨hdc, hnx, hsp, hix⟩ := xfe_ok hG hf
  subst hnx
  have hM : xat xHs 144 = some xhJ9_abs_067f4 := rfl
  obtain ⟨c1, c2, -, -, -, c6, -, -⟩ := xhead hM
  simp only [xsp, hM, Bool.and_eq_true, decide_eq_true_eq] at hsp
  rw [if_neg (by decide)] at hsp
  simp only [Bool.and_eq_true, decide_eq_true_eq] at hsp
  have hl3 := hsp.2
  unfold xlk at hl3
  rw [Bool.or_eq_true] at hl3
  rcases hl3 with hl3 | hl3
  · refine va_mabs_long hx hb (hml.trans hL.1.symm) hown (hts _ (xat1_mem hl3)) (hts _ (c6 rfl)) (hts _ c2) (hts (.code yJ9_abs_067f4 Lib.MathLoose.abs_long.code 2 (some .long)) (by rw [← xabs_code]; exact c1)) hd ?_ h1 h2 hdc (k g p l0 e s m args below meth c H locs ls C hP hS hL)
    rw [xcat_r]
    show xcat st + 13 ≤ 80 * d
    omega
  · simp only [decide_eq_true_eq, xNs, List.mem_cons, Prod.mk.injEq, List.not_mem_nil, or_false] at hl3
    exact absurd hl3 (by rintro (h | h | h | h | h | h | h) <;> exact absurd h.2.2 (by decide))
theorem tt_max {x y : Int64} (hf : xfe M pc = some (.invokestatic i, nx, a, 145, hh)) (k : xT M (d, mc, ms, cu, su) nx l (.long (if y < x then x else y) :: st) n h Q) (hd : 1 ≤ d := by exact Nat.le_of_ble_eq_true rfl) (h1 : cu ≤ mc := by exact Nat.le_of_ble_eq_true rfl) (h2 : su ≤ ms := by exact Nat.le_of_ble_eq_true rfl) (hW : xcat st ≤ 8 := by exact Nat.le_of_ble_eq_true rfl) : xT M (d, mc, ms, cu, su) pc l (.long y :: .long x :: st) n h Q := by
  intro g p l0 e s m args below meth c H locs ls C hP hS hL
  obtain ⟨hx, hb, hml, hown, hts, hr, hlk, hnm, hK, hN, hG, hz⟩ := id C
  obtain ⟨hdc, hnx, hsp, hix⟩ := xfe_ok hG hf
  subst hnx
  have hM : xat xHs 145 = some xhJ9_max_f86c9 := rfl
  obtain ⟨c1, c2, -, -, -, c6, -, -⟩ := xhead hM
  simp only [xsp, hM, Bool.and_eq_true, decide_eq_true_eq] at hsp
  rw [if_neg (by decide)] at hsp
  simp only [Bool.and_eq_true, decide_eq_true_eq] at hsp
  have hl3 := hsp.2
  unfold xlk at hl3
  rw [Bool.or_eq_true] at hl3
  rcases hl3 with hl3 | hl3
  · refine va_mmax_long hx hb (hml.trans hL.1.symm) hown (hts _ (xat1_mem hl3)) (hts _ (c6 rfl)) (hts _ c2) (hts (.code yJ9_max_f86c9 Lib.MathLoose.max_long.code 4 (some .long)) (by rw [← xmax_code]; exact c1)) hd ?_ h1 h2 hdc (k g p l0 e s m args below meth c H locs ls C hP hS hL)
    rw [xcat_r]
    show xcat st + 15 ≤ 80 * d
    omega
  · simp only [decide_eq_true_eq, xNs, List.mem_cons, Prod.mk.injEq, List.not_mem_nil, or_false] at hl3
    exact absurd hl3 (by rintro (h | h | h | h | h | h | h) <;> exact absurd h.2.2 (by decide))
theorem tt_cpyI {q q' N N' : Nat} {f f' : Nat → Int32} {sp dp k : Int32} (hf : xfe M pc = some (.invokestatic i, nx, a, 1001, hh)) (hq : h q = some (.inl (N, .inl f))) (hq' : h q' = some (.inl (N', .inl f'))) (h1 : ¬ sp < 0) (h2 : ¬ dp < 0) (h3 : ¬ k < 0) (h4 : sp.toNatClampNeg + k.toNatClampNeg ≤ N) (h5 : dp.toNatClampNeg + k.toNatClampNeg ≤ N')
    (kk : xT M (d, mc, ms, 0, su) nx l st n (xup h q' (.inl (N', .inl (va_cpy f f' sp.toNatClampNeg dp.toNatClampNeg k.toNatClampNeg)))) Q) (hd : 1 ≤ d := by exact Nat.le_of_ble_eq_true rfl) (hW : xcat st ≤ 8 := by exact Nat.le_of_ble_eq_true rfl) : xT M (d, mc, ms, 0, su) pc l (.int k :: .int dp :: .ref q' :: .int sp :: .ref q :: st) n h Q := by
  intro g p l0 e s m args below meth c H locs ls C hP hS hL
  obtain ⟨hx, hb, hml, hown, hts, hr, hlk, hnm, hK, hN, hG, hz⟩ := id C
  obtain ⟨hdc, hnx, hsp, hix⟩ := xfe_ok hG hf
  subst hnx
  simp only [xsp, if_pos, Bool.and_eq_true] at hsp
  refine va_copyi (H0 := H) (A := xA g) hx hb (hml.trans hL.1.symm) hown (hts _ (xin_mem hsp.1.1.1)) (hts _ (xin_mem hsp.1.1.2)) (hts _ (xin_mem hsp.1.2)) (hts _ (xin_mem hsp.2)) hK hP.2.2 (xW_D g n h) ⟨Nat.le_refl _, fun _ _ _ => rfl, hS.2.2⟩ q q' 0 0 (hP.get hq) (hP.get hq') rfl rfl rfl h1 h2 h3 h4 h5 (fun _ _ => rfl) hd ?_ hdc (fun H1 locs1 p1 d1 s1 => ?_)
  · rw [xcat_r]
    show xcat st + (7 + 11) ≤ 80 * d
    omega
  · intro T hT X
    have b1 : T.heap.size ≤ s.heap.size + 0 := X.same.2.2.1
    rw [hT] at b1
    have b2 := s1.1
    have b3 := hS.1
    have hsz : H1.size = H.size := by omega
    refine kk g p l0 e s m args below meth c H1 locs1 ls C ⟨hsz.trans hP.1, fun j hj => ?_, ?_⟩ ⟨by omega, fun j hj hA => ?_, s1.2.2⟩ hL T hT X
    · rw [xup_n (by have := hP.lt hq'; omega)]
      exact hP.2.1 j hj
    · rw [← xW_set]
      exact p1
    · rw [s1.2.1 j (by omega) hA]
      exact hS.2.1 j hj hA
theorem tt_cpyL {q q' N N' : Nat} {f f' : Nat → Int64} {sp dp k : Int32} (hf : xfe M pc = some (.invokestatic i, nx, a, 1001, hh)) (hq : h q = some (.inl (N, .inr (.inl f)))) (hq' : h q' = some (.inl (N', .inr (.inl f')))) (h1 : ¬ sp < 0) (h2 : ¬ dp < 0) (h3 : ¬ k < 0) (h4 : sp.toNatClampNeg + k.toNatClampNeg ≤ N) (h5 : dp.toNatClampNeg + k.toNatClampNeg ≤ N')
    (kk : xT M (d, mc, ms, 0, su) nx l st n (xup h q' (.inl (N', .inr (.inl (va_cpy f f' sp.toNatClampNeg dp.toNatClampNeg k.toNatClampNeg))))) Q) (hd : 1 ≤ d := by exact Nat.le_of_ble_eq_true rfl) (hW : xcat st ≤ 8 := by exact Nat.le_of_ble_eq_true rfl) : xT M (d, mc, ms, 0, su) pc l (.int k :: .int dp :: .ref q' :: .int sp :: .ref q :: st) n h Q := by
  intro g p l0 e s m args below meth c H locs ls C hP hS hL
  obtain ⟨hx, hb, hml, hown, hts, hr, hlk, hnm, hK, hN, hG, hz⟩ := id C
  obtain ⟨hdc, hnx, hsp, hix⟩ := xfe_ok hG hf
  subst hnx
  simp only [xsp, if_pos, Bool.and_eq_true] at hsp
  refine va_copyl (H0 := H) (A := xA g) hx hb (hml.trans hL.1.symm) hown (hts _ (xin_mem hsp.1.1.1)) (hts _ (xin_mem hsp.1.1.2)) (hts _ (xin_mem hsp.1.2)) (hts _ (xin_mem hsp.2)) hK hP.2.2 (xW_D g n h) ⟨Nat.le_refl _, fun _ _ _ => rfl, hS.2.2⟩ q q' 1 1 (hP.get hq) (hP.get hq') rfl rfl rfl h1 h2 h3 h4 h5 (fun _ _ => rfl) hd ?_ hdc (fun H1 locs1 p1 d1 s1 => ?_)
  · rw [xcat_r]
    show xcat st + (7 + 11) ≤ 80 * d
    omega
  · intro T hT X
    have b1 : T.heap.size ≤ s.heap.size + 0 := X.same.2.2.1
    rw [hT] at b1
    have b2 := s1.1
    have b3 := hS.1
    have hsz : H1.size = H.size := by omega
    refine kk g p l0 e s m args below meth c H1 locs1 ls C ⟨hsz.trans hP.1, fun j hj => ?_, ?_⟩ ⟨by omega, fun j hj hA => ?_, s1.2.2⟩ hL T hT X
    · rw [xup_n (by have := hP.lt hq'; omega)]
      exact hP.2.1 j hj
    · rw [← xW_set]
      exact p1
    · rw [s1.2.1 j (by omega) hA]
      exact hS.2.1 j hj hA
end XP
