/-! The reference: the cut -/
theorem inR_pos (v : V4) (cnt : Nat) : ∀ (k : Nat) (N : Nat → Int), (∀ j, j < k → 0 < N (4 * j + 3)) → (∀ j, k < j → j ≤ cnt → 0 < N (4 * j + 3)) → ∀ j, j ≤ cnt → j ≠ (inR v k N).2 → 0 < (inR v k N).1 (4 * j + 3)
  | 0, N, h1, h2, j, hj, hne => by
    simp only [inR] at hne ⊢
    exact h2 j (by omega) hj
  | k + 1, N, h1, h2, j, hj, hne => by
    by_cases hs : slL N v k
    · have ir : inR v (k + 1) N = inR v k (va_cpy N N (4 * k) (4 * (k + 1)) 4) := by simp only [inR]; rw [if_pos hs]
      rw [ir] at hne ⊢
      refine inR_pos v cnt k _ (fun i hi => ?_) (fun i hi hi2 => ?_) j hj hne
      · rw [cpy4_at N k i 3 (by omega), if_neg (by omega)]; exact h1 i (by omega)
      · rw [cpy4_at N k i 3 (by omega)]
        split
        · exact h1 k (by omega)
        · exact h2 i (by omega) hi2
    · have ir : inR v (k + 1) N = (N, k + 1) := by simp only [inR]; rw [if_neg hs]
      rw [ir] at hne ⊢
      simp only at hne ⊢
      rcases Nat.lt_or_ge j (k + 1) with e | e
      · exact h1 j e
      · exact h2 j (by omega) hj
def posS (s : Nat × (Nat → Int)) : Prop := ∀ i, i < s.1 → 0 < s.2 (4 * i + 3)
theorem isv_pos {v : V4} (hv : 0 < v.2) {s : Nat × (Nat → Int)} (h : posS s) : posS (isv v s) := by
  unfold isv
  split
  · intro i hi
    simp only at hi ⊢
    by_cases e : i = (inR v s.1 s.2).2
    · have := ((put4_at (inR v s.1 s.2).1 (inR v s.1 s.2).2 i v).1 e).2.2.2
      rw [this]; exact hv
    · rw [(put4_at (inR v s.1 s.2).1 (inR v s.1 s.2).2 i v).2 e 3 (by omega)]
      exact inR_pos v s.1 s.1 s.2 h (fun j a b => by omega) i (by omega) e
  · exact h
theorem slQ_pos {P : Nat → V3} {b : Nat → Nat} {d : V3} {z : Int} {p : Nat} : ∀ (k q : Nat) (s : Nat × (Nat → Int)), posS s → posS (slQ P b d z p k q s)
  | 0, q, s, h => by unfold slQ; exact h
  | k + 1, q, s, h => by
    unfold slQ
    refine slQ_pos k (q + 1) _ ?_
    split
    · rename_i hc
      refine isv_pos ?_ h
      show 0 < ((dot d (P q) - z).natAbs : Int) + ((dot d (P p) - z).natAbs : Int)
      omega
    · exact h
theorem slP_pos {P : Nat → V3} {CB : Nat} {b : Nat → Nat} {d : V3} {z : Int} : ∀ (k p : Nat) (s : Nat × (Nat → Int)), posS s → posS (slP P CB b d z k p s)
  | 0, p, s, h => by unfold slP; exact h
  | k + 1, p, s, h => by
    unfold slP
    refine slP_pos k (p + 1) _ ?_
    split
    · refine slQ_pos p 0 _ ?_
      split
      · exact isv_pos (by show (0 : Int) < 1 + 0; omega) h
      · exact h
    · exact h
theorem cuS_pos (P : Nat → V3) (m : Nat) (d : V3) (z : Int) (N : Nat → Int) : posS (cuS P m d z N) := slP_pos 14 0 (0, N) (fun i hi => by simp only at hi; omega)
theorem slP_none {P : Nat → V3} {CB : Nat} {b : Nat → Nat} {d : V3} {z : Int} : ∀ (k p : Nat) (s : Nat × (Nat → Int)), (∀ j, p ≤ j → CB.testBit j = false) → slP P CB b d z k p s = s
  | 0, p, s, h => by unfold slP; rfl
  | k + 1, p, s, h => by
    unfold slP
    rw [if_neg (by rw [h p (by omega)]; simp)]
    exact slP_none k (p + 1) s (fun j hj => h j (by omega))
section MC
variable {h : xHp} {m : Nat} {P : Nat → V3} {bu tb fl co fa : Nat} {fb fs fr : Nat → Nat} {nn : Nat → V3} {lv : Nat → Int} {a : V3} {fat : Nat → Nat} {w : Int × V3} {cm : Int} {cX cY cZ cD su sv : Nat → Int} {tu : Nat} {im : Nat → Int} {rk ba : Nat → Nat} {go : Nat → Int}
variable {n : Nat} {hh : xHp}
set_option maxRecDepth 10000 in
set_option maxHeartbeats 2000000 in
theorem m_cut (H : mHp hh m P cm cX cY cZ cD) (N0 : Nat → Int) (hN0 : sBd N0) (x y z d : Int) (hx : R3 x) (hy : R3 y) (hz : R3 z) (hd : R3 d) : xCall xmX6_cut 100 0 0 [.ref 64, zI x, zI y, zI z, zI d] n hh (fun r n' h' => n' = n ∧ (∀ j, j < 64 → h' j = hh j) ∧ ((¬ 0 < (blF P m).1 ∧ r = some (zI (-3)) ∧ mHp h' m P cm cX cY cZ cD) ∨ (0 < (blF P m).1 ∧ ¬ (isDir x y z ∧ zwi d 2000) ∧ r = some (zI (-2)) ∧ mHp h' m P cm cX cY cZ cD) ∨ (0 < (blF P m).1 ∧ (isDir x y z ∧ zwi d 2000) ∧ r = some (zI (cuS P m (x, y, z) d N0).1) ∧ ∃ X' Y' Z' D', mHp h' m P ((cuS P m (x, y, z) d N0).1 : Int) X' Y' Z' D' ∧ agr (cuS P m (x, y, z) d N0) X' Y' Z' D'))) := by
  obtain ⟨fs, hq⟩ := H.at
  refine xCall.of xgX6_cut rfl ?_
  refine tt_op rfl rfl ?_
  refine tt_callV (M' := xmX6_noSolid) rfl rfl rfl hq rfl (m_noSolid H) ?_
  rintro res n' h' ⟨rfl, h64, ⟨hF, rfl, hM⟩ | ⟨hF, rfl, hM⟩⟩
  · refine z_if rfl (by first | assumption | (unfold R3; omega)) (fun c => absurd c (by simp only [zcd] <;> omega)) (fun c => ?_)
    refine tt_op rfl rfl ?_
    refine tt_ireturn rfl rfl (by rfl) (Nat.le_of_ble_eq_true rfl) (Nat.le_of_ble_eq_true rfl) ?_
    exact ⟨rfl, h64, Or.inl ⟨hF, rfl, hM⟩⟩
  have hM' := hM.hp
  obtain ⟨h, tb, fl, co, fa, fb, fs, fr, nn, lv, a, fat, w, su, sv, tu, im, rk, ba, go, rfl, hI, hS⟩ := hM
  obtain ⟨_, ⟨hm, hb, hD⟩, hs, hA, _, hbd, hmt, hrn⟩ := SF_u hS
  have hb' : ∀ j, j < m → vbd 20 (P j) := fun j hj => hb j (by omega)
  have hC := hCB_spec hm hb' hD hs
  have hE := hBs_spec hm hb' hD
  refine z_if rfl (by first | assumption | (unfold R3; omega)) (fun c => ?_) (fun c => absurd (by simp only [zcd] <;> omega) c)
  refine tt_op rfl rfl ?_
  refine tt_op rfl rfl ?_
  refine tt_op rfl rfl ?_
  have no : ¬ (isDir x y z ∧ zwi d 2000) → ∀ ls, xT xmX6_cut (100, 0, 0, 0, 0) 33 ls [] n' (mdH h m P (1) tb fl co fa fb fs fr nn lv a fat w cm cX cY cZ cD su sv tu im rk ba go) (fun r n'' h' => n'' = n' ∧ (∀ j, j < 64 → h' j = hh j) ∧ ((¬ 0 < (blF P m).1 ∧ r = some (zI (-3)) ∧ mHp h' m P cm cX cY cZ cD) ∨ (0 < (blF P m).1 ∧ ¬ (isDir x y z ∧ zwi d 2000) ∧ r = some (zI (-2)) ∧ mHp h' m P cm cX cY cZ cD) ∨ (0 < (blF P m).1 ∧ (isDir x y z ∧ zwi d 2000) ∧ r = some (zI (cuS P m (x, y, z) d N0).1) ∧ ∃ X' Y' Z' D', mHp h' m P ((cuS P m (x, y, z) d N0).1 : Int) X' Y' Z' D' ∧ agr (cuS P m (x, y, z) d N0) X' Y' Z' D'))) := by
    intro e ls
    refine tt_op rfl rfl ?_
    refine tt_ireturn rfl rfl (by rfl) (Nat.le_of_ble_eq_true rfl) (Nat.le_of_ble_eq_true rfl) ?_
    exact ⟨rfl, h64, Or.inr (Or.inl ⟨hF, e, rfl, hM'⟩)⟩
  by_cases hdir : isDir x y z
  rotate_left
  · refine tt_pS rfl rfl rfl rfl (m_isDir x y z hx hy hz (zI 0) (fun e => absurd e hdir) (fun _ => rfl) _ _) ?_
    refine z_if rfl (by first | assumption | (unfold R3; omega)) (fun c => ?_) (fun c => absurd (by simp only [zcd] <;> omega) c)
    exact no (fun e => hdir e.1) _
  refine tt_pS rfl rfl rfl rfl (m_isDir x y z hx hy hz (zI 1) (fun _ => rfl) (fun e => absurd hdir e) _ _) ?_
  refine z_if rfl (by first | assumption | (unfold R3; omega)) (fun c => absurd c (by simp only [zcd] <;> omega)) (fun c => ?_)
  refine tt_op rfl rfl ?_
  refine tt_op rfl rfl ?_
  refine tt_op rfl rfl ?_
  refine tt_pS rfl rfl rfl rfl (m_in d (-2000) 2000 hd ⟨by decide, by decide⟩ ⟨by decide, by decide⟩ _ _) ?_
  by_cases c2 : -2000 ≤ d ∧ d ≤ 2000
  rotate_left
  · rw [if_neg c2]
    refine z_if rfl (by first | assumption | (unfold R3; omega)) (fun c => absurd c (by simp only [zcd] <;> omega)) (fun c => ?_)
    exact no (fun e => c2 e.2) _
  rw [if_pos c2]
  have hgood : isDir x y z ∧ zwi d 2000 := ⟨hdir, c2⟩
  obtain ⟨hne, zx, zy, zz⟩ := id hdir
  refine z_if rfl (by first | assumption | (unfold R3; omega)) (fun c => ?_) (fun c => absurd (by simp only [zcd] <;> omega) c)
  refine tt_op rfl rfl ?_
  refine tt_op rfl rfl ?_
  refine md_pcm (x := 0) rfl (by decide) ?_
  refine tt_op rfl rfl ?_
  refine tt_op rfl rfl ?_
  have hcap := nC_cap hm hb' hD hs (x, y, z) d
  have hvb : ∀ p, p < 14 → -1200 ≤ dot (x, y, z) (P p) ∧ dot (x, y, z) (P p) ≤ 1200 := fun p hp => by
    have := dot_bd (u := (x, y, z)) (v := P p) (A := 20) (B := 20) ⟨zx, zy, zz⟩ (hb p hp); omega
  have loop : ∀ (j p : Nat) (s : Nat × (Nat → Int)) (X Y Z D : Nat → Int) (l6 l7 l8 l9 l10 : Option Value), p + j = m → sOk s → agr s X Y Z D → s.1 = ct (fun p => isCor P m p ∧ dot (x, y, z) (P p) = d) p + sm (fun p => ct (xEd P m (x, y, z) d p) p) p → slP P (hCB P m) (hBs P m) (x, y, z) d (14 - p) p s = cuS P m (x, y, z) d N0 → xT xmX6_cut (100, 0, 0, 0, 0) 44 [some (.ref 64), some (zI x), some (zI y), some (zI z), some (zI d), some (zI p), l6, l7, l8, l9, l10] [] n' (mdH h m P (1) tb fl co fa fb fs fr nn lv a fat w ((s.1 : Int)) (X) (Y) (Z) (D) su sv tu im rk ba go) (fun r n'' h' => n'' = n' ∧ (∀ j, j < 64 → h' j = hh j) ∧ ((¬ 0 < (blF P m).1 ∧ r = some (zI (-3)) ∧ mHp h' m P cm cX cY cZ cD) ∨ (0 < (blF P m).1 ∧ ¬ (isDir x y z ∧ zwi d 2000) ∧ r = some (zI (-2)) ∧ mHp h' m P cm cX cY cZ cD) ∨ (0 < (blF P m).1 ∧ (isDir x y z ∧ zwi d 2000) ∧ r = some (zI (cuS P m (x, y, z) d N0).1) ∧ ∃ X' Y' Z' D', mHp h' m P ((cuS P m (x, y, z) d N0).1 : Int) X' Y' Z' D' ∧ agr (cuS P m (x, y, z) d N0) X' Y' Z' D'))) := by
    intro j
    induction j with
    | zero =>
      intro p s X Y Z D l6 l7 l8 l9 l10 hp hok hag hcn hfin
      have : p = m := by omega
      subst this
      have e : slP P (hCB P p) (hBs P p) (x, y, z) d (14 - p) p s = s := slP_none _ _ _ (fun j hj => by
        cases hh : (hCB P p).testBit j
        · rfl
        · have := ((hC j).1 hh).1; omega)
      rw [e] at hfin
      refine tt_op rfl rfl ?_
      refine tt_op rfl rfl ?_
      refine tt_get rfl md64 (by rfl) ?_
      refine z_icmp rfl (by first | assumption | (unfold R3; omega)) (by first | assumption | (unfold R3; omega)) (fun c => ?_) (fun c => absurd (by simp only [zcd] <;> omega) c)
      refine tt_op rfl rfl ?_
      refine tt_get rfl md64 (by rfl) ?_
      refine tt_ireturn rfl rfl (by rfl) (Nat.le_of_ble_eq_true rfl) (Nat.le_of_ble_eq_true rfl) ?_
      rw [← hfin]
      refine ⟨rfl, fun j hj => by rw [← h64 j hj, md_lo hj, md_lo hj], Or.inr (Or.inr ⟨hF, hgood, rfl, X, Y, Z, D, ⟨h, 1, tb, fl, co, fa, fb, fs, fr, nn, lv, a, fat, w, su, sv, tu, im, rk, ba, go, rfl, hI⟩, hag⟩)⟩
    | succ j ih =>
      intro p s X Y Z D l6 l7 l8 l9 l10 hp hok hag hcn hfin
      have p14 : p < 14 := by omega
      have hvp := hvb p p14
      have RV : ∀ q, q < 14 → R6 (dot (x, y, z) (P q) - d) := fun q hq => by have := hvb q hq; exact ⟨by omega, by omega⟩
      obtain ⟨P1, P2, P3⟩ := hb p p14
      have rP : R3 (P p).1 ∧ R3 (P p).2.1 ∧ R3 (P p).2.2 := ⟨⟨by omega, by omega⟩, ⟨by omega, by omega⟩, ⟨by omega, by omega⟩⟩
      obtain ⟨rP1, rP2, rP3⟩ := rP
      -- the row of p
      have row : ∀ (s1 : Nat × (Nat → Int)) (X Y Z D : Nat → Int) (l9 l10 : Option Value) (l8 : Option Value), sOk s1 → agr s1 X Y Z D → s1.1 = ct (fun p => isCor P m p ∧ dot (x, y, z) (P p) = d) (p + 1) + sm (fun p => ct (xEd P m (x, y, z) d p) p) p → (∀ T, (isCor P m p → slQ P (hBs P m) (x, y, z) d p p 0 s1 = T) → (¬ isCor P m p → s1 = T) → slP P (hCB P m) (hBs P m) (x, y, z) d (14 - (p + 1)) (p + 1) T = cuS P m (x, y, z) d N0) → xT xmX6_cut (100, 0, 0, 0, 0) 111 [some (.ref 64), some (zI x), some (zI y), some (zI z), some (zI d), some (zI p), some (zJ (dot (x, y, z) (P p) - d)), none, l8, l9, l10] [] n' (mdH h m P (1) tb fl co fa fb fs fr nn lv a fat w ((s1.1 : Int)) (X) (Y) (Z) (D) su sv tu im rk ba go) (fun r n'' h' => n'' = n' ∧ (∀ j, j < 64 → h' j = hh j) ∧ ((¬ 0 < (blF P m).1 ∧ r = some (zI (-3)) ∧ mHp h' m P cm cX cY cZ cD) ∨ (0 < (blF P m).1 ∧ ¬ (isDir x y z ∧ zwi d 2000) ∧ r = some (zI (-2)) ∧ mHp h' m P cm cX cY cZ cD) ∨ (0 < (blF P m).1 ∧ (isDir x y z ∧ zwi d 2000) ∧ r = some (zI (cuS P m (x, y, z) d N0).1) ∧ ∃ X' Y' Z' D', mHp h' m P ((cuS P m (x, y, z) d N0).1 : Int) X' Y' Z' D' ∧ agr (cuS P m (x, y, z) d N0) X' Y' Z' D'))) := by
        intro s1 X Y Z D l9 l10 l8 hok1 hag1 hcn1 hT
        refine tt_op rfl rfl ?_
        refine tt_op rfl rfl ?_
        have qloop : ∀ (j q : Nat) (s2 : Nat × (Nat → Int)) (X Y Z D : Nat → Int) (l9 l10 : Option Value), q + j = p → sOk s2 → agr s2 X Y Z D → s2.1 = ct (fun p => isCor P m p ∧ dot (x, y, z) (P p) = d) (p + 1) + sm (fun p => ct (xEd P m (x, y, z) d p) p) p + ct (xEd P m (x, y, z) d p) q → (∀ T, (isCor P m p → slQ P (hBs P m) (x, y, z) d p (p - q) q s2 = T) → (¬ isCor P m p → s2 = T) → slP P (hCB P m) (hBs P m) (x, y, z) d (14 - (p + 1)) (p + 1) T = cuS P m (x, y, z) d N0) → xT xmX6_cut (100, 0, 0, 0, 0) 114 [some (.ref 64), some (zI x), some (zI y), some (zI z), some (zI d), some (zI p), some (zJ (dot (x, y, z) (P p) - d)), none, some (zI q), l9, l10] [] n' (mdH h m P (1) tb fl co fa fb fs fr nn lv a fat w ((s2.1 : Int)) (X) (Y) (Z) (D) su sv tu im rk ba go) (fun r n'' h' => n'' = n' ∧ (∀ j, j < 64 → h' j = hh j) ∧ ((¬ 0 < (blF P m).1 ∧ r = some (zI (-3)) ∧ mHp h' m P cm cX cY cZ cD) ∨ (0 < (blF P m).1 ∧ ¬ (isDir x y z ∧ zwi d 2000) ∧ r = some (zI (-2)) ∧ mHp h' m P cm cX cY cZ cD) ∨ (0 < (blF P m).1 ∧ (isDir x y z ∧ zwi d 2000) ∧ r = some (zI (cuS P m (x, y, z) d N0).1) ∧ ∃ X' Y' Z' D', mHp h' m P ((cuS P m (x, y, z) d N0).1 : Int) X' Y' Z' D' ∧ agr (cuS P m (x, y, z) d N0) X' Y' Z' D'))) := by
          intro j
          induction j with
          | zero =>
            intro q s2 X Y Z D l9 l10 hq hok2 hag2 hcn2 hT2
            have : q = p := by omega
            subst this
            refine tt_op rfl rfl ?_
            refine tt_op rfl rfl ?_
            refine z_icmp rfl (by first | assumption | (unfold R3; omega)) (by first | assumption | (unfold R3; omega)) (fun c => ?_) (fun c => absurd (by simp only [zcd] <;> omega) c)
            refine z_iinc rfl rfl rfl ?_
            refine tt_goto rfl ?_
            refine ih (q + 1) s2 X Y Z D _ _ _ _ _ (by omega) hok2 hag2 ?_ (hT2 s2 (fun _ => by rw [Nat.sub_self]; unfold slQ; rfl) (fun _ => rfl))
            show s2.1 = _ + (sm (fun p => ct (xEd P m (x, y, z) d p) p) q + ct (xEd P m (x, y, z) d q) q)
            omega
          | succ j ihq =>
            intro q s2 X Y Z D l9 l10 hq hok2 hag2 hcn2 hT2
            have q14 : q < 14 := by omega
            have hvq := hvb q q14
            obtain ⟨Q1, Q2, Q3⟩ := hb q q14
            have rQ : R3 (P q).1 ∧ R3 (P q).2.1 ∧ R3 (P q).2.2 := ⟨⟨by omega, by omega⟩, ⟨by omega, by omega⟩, ⟨by omega, by omega⟩⟩
            obtain ⟨rQ1, rQ2, rQ3⟩ := rQ
            have skip : ¬ xEd P m (x, y, z) d p q → ∀ l9 l10, xT xmX6_cut (100, 0, 0, 0, 0) 251 [some (.ref 64), some (zI x), some (zI y), some (zI z), some (zI d), some (zI p), some (zJ (dot (x, y, z) (P p) - d)), none, some (zI q), l9, l10] [] n' (mdH h m P (1) tb fl co fa fb fs fr nn lv a fat w ((s2.1 : Int)) (X) (Y) (Z) (D) su sv tu im rk ba go) (fun r n'' h' => n'' = n' ∧ (∀ j, j < 64 → h' j = hh j) ∧ ((¬ 0 < (blF P m).1 ∧ r = some (zI (-3)) ∧ mHp h' m P cm cX cY cZ cD) ∨ (0 < (blF P m).1 ∧ ¬ (isDir x y z ∧ zwi d 2000) ∧ r = some (zI (-2)) ∧ mHp h' m P cm cX cY cZ cD) ∨ (0 < (blF P m).1 ∧ (isDir x y z ∧ zwi d 2000) ∧ r = some (zI (cuS P m (x, y, z) d N0).1) ∧ ∃ X' Y' Z' D', mHp h' m P ((cuS P m (x, y, z) d N0).1 : Int) X' Y' Z' D' ∧ agr (cuS P m (x, y, z) d N0) X' Y' Z' D'))) := by
              intro hnx l9 l10
              refine z_iinc rfl rfl rfl ?_
              refine tt_goto rfl ?_
              refine ihq (q + 1) s2 X Y Z D _ _ (by omega) hok2 hag2 (by rw [ct_f hnx]; exact hcn2) (fun T t1 t2 => hT2 T (fun cp => ?_) t2)
              rw [show p - q = (p - (q + 1)) + 1 by omega]
              unfold slQ
              rw [if_neg]
              · exact t1 cp
              · rintro ⟨e1, e2⟩
                exact hnx ⟨(hE p q).1 e2, by omega⟩
            refine tt_op rfl rfl ?_
            refine tt_op rfl rfl ?_
            refine z_icmp rfl (by first | assumption | (unfold R3; omega)) (by first | assumption | (unfold R3; omega)) (fun c => absurd c (by simp only [zcd] <;> omega)) (fun c => ?_)
            refine tt_op rfl rfl ?_
            refine tt_op rfl rfl ?_
            refine tt_op rfl rfl ?_
            refine tt_op rfl rfl ?_
            refine tt_op rfl rfl ?_
            refine tt_op rfl rfl ?_
            refine tt_pV rfl rfl rfl md64 rfl (m_lies hb q14 x y z d zx zy zz hd) ?_
            refine tt_op rfl rfl ?_
            refine tt_op rfl rfl ?_
            refine tt_op rfl rfl ?_
            refine tt_op rfl rfl ?_
            by_cases he : isEd P m p q
            rotate_left
            · refine tt_pV rfl rfl rfl md64 rfl (m_isEdge hS (p := p) (q := q) p14 q14 (zI 0) (fun e => absurd e he) (fun _ => rfl)) ?_
              refine z_if rfl (by first | assumption | (unfold R3; omega)) (fun c => ?_) (fun c => absurd (by simp only [zcd] <;> omega) c)
              exact skip (fun e => he e.1) _ _
            refine tt_pV rfl rfl rfl md64 rfl (m_isEdge hS (p := p) (q := q) p14 q14 (zI 1) (fun _ => rfl) (fun e => absurd he e)) ?_
            refine z_if rfl (by first | assumption | (unfold R3; omega)) (fun c => absurd c (by simp only [zcd] <;> omega)) (fun c => ?_)
            have addx : ∀ sg : Int, xEd P m (x, y, z) d p q → ((0 < (dot (x, y, z) (P p) - d) - (dot (x, y, z) (P q) - d) ∧ sg = 1) ∨ ((dot (x, y, z) (P p) - d) - (dot (x, y, z) (P q) - d) < 0 ∧ sg = -1)) → ((dot (x, y, z) (P q) - d).natAbs : Int) = -sg * (dot (x, y, z) (P q) - d) → ((dot (x, y, z) (P p) - d).natAbs : Int) = sg * (dot (x, y, z) (P p) - d) → xT xmX6_cut (100, 0, 0, 0, 0) 173 [some (.ref 64), some (zI x), some (zI y), some (zI z), some (zI d), some (zI p), some (zJ (dot (x, y, z) (P p) - d)), none, some (zI q), some (zJ (dot (x, y, z) (P q) - d)), none] [] n' (mdH h m P (1) tb fl co fa fb fs fr nn lv a fat w ((s2.1 : Int)) (X) (Y) (Z) (D) su sv tu im rk ba go) (fun r n'' h' => n'' = n' ∧ (∀ j, j < 64 → h' j = hh j) ∧ ((¬ 0 < (blF P m).1 ∧ r = some (zI (-3)) ∧ mHp h' m P cm cX cY cZ cD) ∨ (0 < (blF P m).1 ∧ ¬ (isDir x y z ∧ zwi d 2000) ∧ r = some (zI (-2)) ∧ mHp h' m P cm cX cY cZ cD) ∨ (0 < (blF P m).1 ∧ (isDir x y z ∧ zwi d 2000) ∧ r = some (zI (cuS P m (x, y, z) d N0).1) ∧ ∃ X' Y' Z' D', mHp h' m P ((cuS P m (x, y, z) d N0).1 : Int) X' Y' Z' D' ∧ agr (cuS P m (x, y, z) d N0) X' Y' Z' D'))) := by
              intro sg hxe hsg en ep
              have hroom := room_x hcap p14 (show q < p by omega) hxe
              have hvv := mxV_bd hb p14 q14 (a := ((dot (x, y, z) (P q) - d).natAbs : Int)) (b := ((dot (x, y, z) (P p) - d).natAbs : Int)) (by omega) (by omega)
              refine tt_op rfl rfl ?_
              refine tt_op rfl rfl ?_
              refine tt_get rfl md64 (by rfl) ?_
              refine tt_op rfl rfl ?_
              refine z_iald rfl md65 rfl (by omega) (by decide) ?_
              refine z_il rfl (by first | assumption | (unfold R3; omega)) ?_
              refine tt_op rfl rfl ?_
              refine z_lmul rfl ?_
              refine tt_op rfl rfl ?_
              refine tt_get rfl md64 (by rfl) ?_
              refine tt_op rfl rfl ?_
              refine z_iald rfl md65 rfl (by omega) (by decide) ?_
              refine z_il rfl (by first | assumption | (unfold R3; omega)) ?_
              refine tt_op rfl rfl ?_
              refine z_lmul rfl ?_
              refine z_lsub rfl ?_
              refine tt_op rfl rfl ?_
              refine tt_get rfl md64 (by rfl) ?_
              refine tt_op rfl rfl ?_
              refine z_iald rfl md66 rfl (by omega) (by decide) ?_
              refine z_il rfl (by first | assumption | (unfold R3; omega)) ?_
              refine tt_op rfl rfl ?_
              refine z_lmul rfl ?_
              refine tt_op rfl rfl ?_
              refine tt_get rfl md64 (by rfl) ?_
              refine tt_op rfl rfl ?_
              refine z_iald rfl md66 rfl (by omega) (by decide) ?_
              refine z_il rfl (by first | assumption | (unfold R3; omega)) ?_
              refine tt_op rfl rfl ?_
              refine z_lmul rfl ?_
              refine z_lsub rfl ?_
              refine tt_op rfl rfl ?_
              refine tt_get rfl md64 (by rfl) ?_
              refine tt_op rfl rfl ?_
              refine z_iald rfl md67 rfl (by omega) (by decide) ?_
              refine z_il rfl (by first | assumption | (unfold R3; omega)) ?_
              refine tt_op rfl rfl ?_
              refine z_lmul rfl ?_
              refine tt_op rfl rfl ?_
              refine tt_get rfl md64 (by rfl) ?_
              refine tt_op rfl rfl ?_
              refine z_iald rfl md67 rfl (by omega) (by decide) ?_
              refine z_il rfl (by first | assumption | (unfold R3; omega)) ?_
              refine tt_op rfl rfl ?_
              refine z_lmul rfl ?_
              refine z_lsub rfl ?_
              refine tt_op rfl rfl ?_
              refine tt_op rfl rfl ?_
              refine z_lsub rfl ?_
              refine tt_callV (M' := xmX6_addCut) rfl rfl rfl md64 rfl (m_addCut s2 (by omega) hok2.2 hag2 (mxV P p ((dot (x, y, z) (P q) - d).natAbs : Int) q ((dot (x, y, z) (P p) - d).natAbs : Int)) hvv _ _ _ _ sg hsg ⟨by omega, by omega⟩ ?_ ?_ ?_ ?_) ?_
              · show _ = ((dot (x, y, z) (P q) - d).natAbs : Int) * (P p).1 + ((dot (x, y, z) (P p) - d).natAbs : Int) * (P q).1
                rw [en, ep]; grind
              · show _ = ((dot (x, y, z) (P q) - d).natAbs : Int) * (P p).2.1 + ((dot (x, y, z) (P p) - d).natAbs : Int) * (P q).2.1
                rw [en, ep]; grind
              · show _ = ((dot (x, y, z) (P q) - d).natAbs : Int) * (P p).2.2 + ((dot (x, y, z) (P p) - d).natAbs : Int) * (P q).2.2
                rw [en, ep]; grind
              · show _ = ((dot (x, y, z) (P q) - d).natAbs : Int) + ((dot (x, y, z) (P p) - d).natAbs : Int)
                rw [en, ep]; grind
              rintro res n' h' ⟨rfl, rfl, X', Y', Z', D', rfl, hag3⟩
              have hok3 := isv_ok hvv hok2.1 hok2.2
              have e3 : (isv (mxV P p ((dot (x, y, z) (P q) - d).natAbs : Int) q ((dot (x, y, z) (P p) - d).natAbs : Int)) s2).1 = s2.1 + 1 := by unfold isv; rw [if_pos (by omega)]
              refine z_iinc rfl rfl rfl ?_
              refine tt_goto rfl ?_
              have t := ihq (q + 1) (isv (mxV P p ((dot (x, y, z) (P q) - d).natAbs : Int) q ((dot (x, y, z) (P p) - d).natAbs : Int)) s2) X' Y' Z' D' (some (zJ (dot (x, y, z) (P q) - d))) none (by omega) hok3 hag3 (by rw [e3, ct_t hxe]; omega) (fun T t1 t2 => hT2 T (fun cp => by
                rw [show p - q = (p - (q + 1)) + 1 by omega]
                unfold slQ
                rw [if_pos]
                · exact t1 cp
                · exact ⟨by have := hxe.2; omega, (hE p q).2 hxe.1⟩) (fun ncp => absurd he.2.1 ncp))
              rw [e3] at t
              exact t
            refine tt_op rfl rfl ?_
            refine tt_op rfl rfl ?_
            refine z_lif rfl rfl (RV p p14) ⟨by decide, by decide⟩ (fun d1 => ?_) (fun d1 => ?_)
            · simp only [zcd] at d1
              refine tt_op rfl rfl ?_
              refine tt_op rfl rfl ?_
              refine z_lif rfl rfl (RV p p14) ⟨by decide, by decide⟩ (fun d2 => ?_) (fun d2 => ?_)
              · simp only [zcd] at d2
                exact skip (fun e => by have := e.2; omega) _ _
              simp only [zcd] at d2
              refine tt_op rfl rfl ?_
              refine tt_op rfl rfl ?_
              refine z_lif rfl rfl (RV q q14) ⟨by decide, by decide⟩ (fun d3 => ?_) (fun d3 => ?_)
              · simp only [zcd] at d3
                exact skip (fun e => by have := e.2; omega) _ _
              · simp only [zcd] at d3
                exact addx 1 ⟨he, Or.inr ⟨by omega, by omega⟩⟩ (Or.inl ⟨by omega, rfl⟩) (by omega) (by omega)
            · simp only [zcd] at d1
              refine tt_op rfl rfl ?_
              refine tt_op rfl rfl ?_
              refine z_lif rfl rfl (RV q q14) ⟨by decide, by decide⟩ (fun d2 => ?_) (fun d2 => ?_)
              · simp only [zcd] at d2
                exact addx (-1) ⟨he, Or.inl ⟨by omega, by omega⟩⟩ (Or.inr ⟨by omega, rfl⟩) (by omega) (by omega)
              · simp only [zcd] at d2
                refine tt_op rfl rfl ?_
                refine tt_op rfl rfl ?_
                refine z_lif rfl rfl (RV p p14) ⟨by decide, by decide⟩ (fun d3 => ?_) (fun d3 => absurd (show zcd .le (dot (x, y, z) (P p) - d) 0 by simp only [zcd]; omega) d3)
                exact skip (fun e => by have := e.2; omega) _ _
        exact qloop p 0 s1 X Y Z D _ _ (by omega) hok1 hag1 (by rw [hcn1]; rfl) hT
      refine tt_op rfl rfl ?_
      refine tt_op rfl rfl ?_
      refine tt_get rfl md64 (by rfl) ?_
      refine z_icmp rfl (by first | assumption | (unfold R3; omega)) (by first | assumption | (unfold R3; omega)) (fun c => absurd c (by simp only [zcd] <;> omega)) (fun c => ?_)
      refine tt_op rfl rfl ?_
      refine tt_op rfl rfl ?_
      refine tt_op rfl rfl ?_
      refine tt_op rfl rfl ?_
      refine tt_op rfl rfl ?_
      refine tt_op rfl rfl ?_
      refine tt_pV rfl rfl rfl md64 rfl (m_lies hb p14 x y z d zx zy zz hd) ?_
      refine tt_op rfl rfl ?_
      refine tt_op rfl rfl ?_
      refine tt_op rfl rfl ?_
      have unf : slP P (hCB P m) (hBs P m) (x, y, z) d (14 - p) p s = slP P (hCB P m) (hBs P m) (x, y, z) d (14 - (p + 1)) (p + 1) (if (hCB P m).testBit p = true then slQ P (hBs P m) (x, y, z) d p p 0 (if dot (x, y, z) (P p) - d = 0 then isv (mxV P p 1 p 0) s else s) else s) := by
        rw [show 14 - p = (14 - (p + 1)) + 1 by omega]
        rw [slP]
      rw [unf] at hfin
      by_cases cp : isCor P m p
      rotate_left
      · refine tt_pV rfl rfl rfl md64 rfl (m_isC hS p14 (zI 0) (fun e => absurd e cp) (fun _ => rfl)) ?_
        rw [if_neg (fun e => cp ((hC p).1 e))] at hfin
        refine z_if rfl (by first | assumption | (unfold R3; omega)) (fun c => ?_) (fun c => absurd (by simp only [zcd] <;> omega) c)
        refine row s X Y Z D _ _ _ hok hag (by rw [ct_f (p := fun p => isCor P m p ∧ dot (x, y, z) (P p) = d) (fun e => cp e.1)]; exact hcn) (fun T _ t2 => by rw [← t2 cp]; exact hfin)
      refine tt_pV rfl rfl rfl md64 rfl (m_isC hS p14 (zI 1) (fun _ => rfl) (fun e => absurd cp e)) ?_
      rw [if_pos ((hC p).2 cp)] at hfin
      refine z_if rfl (by first | assumption | (unfold R3; omega)) (fun c => absurd c (by simp only [zcd] <;> omega)) (fun c => ?_)
      refine tt_op rfl rfl ?_
      refine tt_op rfl rfl ?_
      refine z_lif rfl rfl (RV p p14) ⟨by decide, by decide⟩ (fun d1 => ?_) (fun d1 => ?_)
      · simp only [zcd] at d1
        rw [if_neg d1] at hfin
        refine row s X Y Z D _ _ _ hok hag (by rw [ct_f (p := fun p => isCor P m p ∧ dot (x, y, z) (P p) = d) (fun e => d1 (by have := e.2; omega))]; exact hcn) (fun T t1 _ => by rw [← t1 cp]; exact hfin)
      · have d1' : dot (x, y, z) (P p) - d = 0 := by simp only [zcd] at d1; omega
        rw [if_pos d1'] at hfin
        have hzz : isCor P m p ∧ dot (x, y, z) (P p) = d := ⟨cp, by omega⟩
        have hroom := room_z hcap p14 hzz
        have hvv := mxV_bd hb p14 p14 (a := 1) (b := 0) (by omega) (by omega)
        refine tt_op rfl rfl ?_
        refine tt_op rfl rfl ?_
        refine tt_get rfl md64 (by rfl) ?_
        refine tt_op rfl rfl ?_
        refine z_iald rfl md65 rfl (by omega) (by decide) ?_
        refine z_il rfl (by first | assumption | (unfold R3; omega)) ?_
        refine tt_op rfl rfl ?_
        refine tt_get rfl md64 (by rfl) ?_
        refine tt_op rfl rfl ?_
        refine z_iald rfl md66 rfl (by omega) (by decide) ?_
        refine z_il rfl (by first | assumption | (unfold R3; omega)) ?_
        refine tt_op rfl rfl ?_
        refine tt_get rfl md64 (by rfl) ?_
        refine tt_op rfl rfl ?_
        refine z_iald rfl md67 rfl (by omega) (by decide) ?_
        refine z_il rfl (by first | assumption | (unfold R3; omega)) ?_
        refine tt_op rfl rfl ?_
        refine tt_callV (M' := xmX6_addCut) rfl rfl rfl md64 rfl (m_addCut s (by omega) hok.2 hag (mxV P p 1 p 0) hvv _ _ _ 1 1 (Or.inl ⟨by omega, rfl⟩) ⟨by decide, by decide⟩ ?_ ?_ ?_ ?_) ?_
        · show _ = 1 * (P p).1 + 0 * (P p).1; omega
        · show _ = 1 * (P p).2.1 + 0 * (P p).2.1; omega
        · show _ = 1 * (P p).2.2 + 0 * (P p).2.2; omega
        · rfl
        rintro res n' h' ⟨rfl, rfl, X', Y', Z', D', rfl, hag3⟩
        have hok3 := isv_ok hvv hok.1 hok.2
        have e3 : (isv (mxV P p 1 p 0) s).1 = s.1 + 1 := by unfold isv; rw [if_pos (by omega)]
        have t := row (isv (mxV P p 1 p 0) s) X' Y' Z' D' l9 l10 l8 hok3 hag3 (by rw [e3, ct_t (p := fun p => isCor P m p ∧ dot (x, y, z) (P p) = d) hzz]; omega) (fun T t1 _ => by rw [← t1 cp]; exact hfin)
        rw [e3] at t
        exact t
  exact loop m 0 (0, N0) cX cY cZ cD none none none none none (by omega) ⟨by simp only; omega, hN0⟩ (fun i hi => by simp only at hi; omega) rfl rfl
set_option maxRecDepth 10000 in
theorem m_cutAt (H : mHp hh m P cm cX cY cZ cD) (s : Nat × (Nat → Int)) (hcm : (cm = -1 ∧ s.1 = 0) ∨ cm = (s.1 : Int)) (hok : sOk s) (hag : agr s cX cY cZ cD) (hpos : posS s) (x y z : Int) (hx : R3 x) (hy : R3 y) (hz : R3 z) : xCall xmX6_cutAt 100 0 0 [.ref 64, zI x, zI y, zI z] n hh (mPo hh m P cm cX cY cZ cD n (zJ (if (0 ≤ x ∧ x < s.1) ∧ (0 ≤ y ∧ y ≤ 2) ∧ (z = 0 ∨ z = 1) then (if z = 0 then s.2 (4 * x.toNat + y.toNat) else s.2 (4 * x.toNat + 3)).tdiv (Int.gcd (s.2 (4 * x.toNat + y.toNat)) (s.2 (4 * x.toNat + 3))) else -1000000000000))) := by
  have H0 := H
  obtain ⟨h, bu, tb, fl, co, fa, fb, fs, fr, nn, lv, a, fat, w, su, sv, tu, im, rk, ba, go, rfl, hI⟩ := H
  obtain ⟨hs24, hsb⟩ := hok
  have no : ¬ ((0 ≤ x ∧ x < s.1) ∧ (0 ≤ y ∧ y ≤ 2) ∧ (z = 0 ∨ z = 1)) → xT xmX6_cutAt (100, 0, 0, 0, 0) 32 [some (.ref 64), some (zI x), some (zI y), some (zI z)] [] n (mdH h m P bu tb fl co fa fb fs fr nn lv a fat w cm cX cY cZ cD su sv tu im rk ba go) (mPo (mdH h m P bu tb fl co fa fb fs fr nn lv a fat w cm cX cY cZ cD su sv tu im rk ba go) m P cm cX cY cZ cD n (zJ (if (0 ≤ x ∧ x < s.1) ∧ (0 ≤ y ∧ y ≤ 2) ∧ (z = 0 ∨ z = 1) then (if z = 0 then s.2 (4 * x.toNat + y.toNat) else s.2 (4 * x.toNat + 3)).tdiv (Int.gcd (s.2 (4 * x.toNat + y.toNat)) (s.2 (4 * x.toNat + 3))) else -1000000000000))) := by
    intro e
    rw [if_neg e]
    refine tt_op rfl rfl ?_
    refine tt_lreturn rfl rfl (Nat.le_of_ble_eq_true rfl) (Nat.le_of_ble_eq_true rfl) ?_
    exact ⟨rfl, fun j _ => rfl, H0, rfl⟩
  refine xCall.of xgX6_cutAt rfl ?_
  refine tt_op rfl rfl ?_
  refine tt_op rfl rfl ?_
  refine tt_op rfl rfl ?_
  refine tt_get rfl md64 (by rfl) ?_
  refine tt_op rfl rfl ?_
  refine z_isub rfl ?_
  refine tt_pS rfl rfl rfl rfl (m_in x 0 (cm - 1) hx ⟨by omega, by omega⟩ ⟨by omega, by omega⟩ _ _) ?_
  by_cases c1 : 0 ≤ x ∧ x ≤ cm - 1
  rotate_left
  · rw [if_neg c1]
    refine z_if rfl (by first | assumption | (unfold R3; omega)) (fun c => ?_) (fun c => absurd (by simp only [zcd] <;> omega) c)
    exact no (fun e => c1 (by have := e.1; omega))
  rw [if_pos c1]
  refine z_if rfl (by first | assumption | (unfold R3; omega)) (fun c => absurd c (by simp only [zcd] <;> omega)) (fun c => ?_)
  refine tt_op rfl rfl ?_
  refine tt_op rfl rfl ?_
  refine tt_op rfl rfl ?_
  refine tt_pS rfl rfl rfl rfl (m_in y 0 2 hy ⟨by decide, by decide⟩ ⟨by decide, by decide⟩ _ _) ?_
  by_cases c2 : 0 ≤ y ∧ y ≤ 2
  rotate_left
  · rw [if_neg c2]
    refine z_if rfl (by first | assumption | (unfold R3; omega)) (fun c => ?_) (fun c => absurd (by simp only [zcd] <;> omega) c)
    exact no (fun e => c2 e.2.1)
  rw [if_pos c2]
  refine z_if rfl (by first | assumption | (unfold R3; omega)) (fun c => absurd c (by simp only [zcd] <;> omega)) (fun c => ?_)
  refine tt_op rfl rfl ?_
  refine tt_op rfl rfl ?_
  refine tt_op rfl rfl ?_
  refine tt_pS rfl rfl rfl rfl (m_in z 0 1 hz ⟨by decide, by decide⟩ ⟨by decide, by decide⟩ _ _) ?_
  by_cases c3 : 0 ≤ z ∧ z ≤ 1
  rotate_left
  · rw [if_neg c3]
    refine z_if rfl (by first | assumption | (unfold R3; omega)) (fun c => absurd c (by simp only [zcd] <;> omega)) (fun c => ?_)
    exact no (fun e => c3 (by have := e.2.2; omega))
  rw [if_pos c3, if_pos ⟨⟨c1.1, by omega⟩, c2, by omega⟩]
  obtain ⟨i, rfl⟩ : ∃ i : Nat, x = i := ⟨x.toNat, by omega⟩
  obtain ⟨pt, rfl⟩ : ∃ pt : Nat, z = pt := ⟨z.toNat, by omega⟩
  have his : i < s.1 := by omega
  rw [Int.toNat_natCast]
  obtain ⟨g1, g2, g3, g4⟩ := hag i his
  have hp := hpos i his
  have hb4 := hsb (4 * i + 3) (by omega)
  have fin : ∀ M : Int, M = s.2 (4 * i + y.toNat) → (-1000000 ≤ M ∧ M ≤ 1000000) → xT xmX6_cutAt (100, 0, 0, 0, 0) 69 [some (.ref 64), some (zI i), some (zI y), some (zI pt)] [zJ M] n (mdH h m P bu tb fl co fa fb fs fr nn lv a fat w cm cX cY cZ cD su sv tu im rk ba go) (mPo (mdH h m P bu tb fl co fa fb fs fr nn lv a fat w cm cX cY cZ cD su sv tu im rk ba go) m P cm cX cY cZ cD n (zJ ((if (pt : Int) = 0 then s.2 (4 * i + y.toNat) else s.2 (4 * i + 3)).tdiv (Int.gcd (s.2 (4 * i + y.toNat)) (s.2 (4 * i + 3)))))) := by
    intro M hM hMb
    refine tt_op rfl rfl ?_
    refine tt_get rfl md64 (by rfl) ?_
    refine tt_op rfl rfl ?_
    refine z_lald rfl md79 rfl (by omega) (by decide) ?_
    refine tt_op rfl rfl ?_
    rw [← g4]
    refine tt_pS rfl rfl rfl rfl (m_part M (s.2 (4 * i + 3)) pt ⟨by omega, by omega⟩ ⟨by omega, by omega⟩ (by omega) _ _) ?_
    refine tt_lreturn rfl rfl (Nat.le_of_ble_eq_true rfl) (Nat.le_of_ble_eq_true rfl) ?_
    refine ⟨rfl, fun j _ => rfl, H0, ?_⟩
    rw [hM]
    by_cases e : pt = 0
    · subst e; rfl
    · rw [if_neg e, if_neg (by omega)]
  refine z_if rfl (by first | assumption | (unfold R3; omega)) (fun c => ?_) (fun c => absurd (by simp only [zcd] <;> omega) c)
  refine tt_op rfl rfl ?_
  refine z_if rfl (by first | assumption | (unfold R3; omega)) (fun d0 => ?_) (fun d0 => ?_)
  · simp only [zcd] at d0
    refine tt_op rfl rfl ?_
    refine tt_op rfl rfl ?_
    refine z_icmp rfl (by first | assumption | (unfold R3; omega)) (by first | assumption | (unfold R3; omega)) (fun d1 => ?_) (fun d1 => ?_)
    · simp only [zcd] at d1
      refine tt_op rfl rfl ?_
      refine tt_get rfl md64 (by rfl) ?_
      refine tt_op rfl rfl ?_
      refine z_lald rfl md78 rfl (by omega) (by decide) ?_
      rw [← g3]
      exact fin _ (by rw [show y = 2 by omega]; rfl) (hsb _ (by omega))
    · simp only [zcd] at d1
      refine tt_op rfl rfl ?_
      refine tt_get rfl md64 (by rfl) ?_
      refine tt_op rfl rfl ?_
      refine z_lald rfl md77 rfl (by omega) (by decide) ?_
      refine tt_goto rfl ?_
      rw [← g2]
      exact fin _ (by rw [show y = 1 by omega]; rfl) (hsb _ (by omega))
  · simp only [zcd] at d0
    refine tt_op rfl rfl ?_
    refine tt_get rfl md64 (by rfl) ?_
    refine tt_op rfl rfl ?_
    refine z_lald rfl md76 rfl (by omega) (by decide) ?_
    refine tt_goto rfl ?_
    rw [← g1]
    exact fin _ (by rw [show y = 0 by omega]; rfl) (hsb _ (by omega))
end MC
