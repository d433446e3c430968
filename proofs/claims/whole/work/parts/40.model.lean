/-! The reference's cells -/
abbrev mdC (m bu tb fl co fa : Nat) (a : V3) (w : Int × V3) (cm : Int) (tu : Nat) : xE := .inr (6, [zI m, .ref 65, .ref 66, .ref 67, zI bu, zI tb, zI fl, zI co, zI fa, .ref 68, .ref 69, .ref 70, .ref 71, .ref 72, .ref 73, .ref 74, zI a.1, zI a.2.1, zI a.2.2, .ref 75, zJ w.1, zJ w.2.1, zJ w.2.2.1, zJ w.2.2.2, zI cm, .ref 76, .ref 77, .ref 78, .ref 79, .ref 80, .ref 81, zI tu, .ref 82, .ref 83, .ref 84, .ref 85])
def mdH (h : xHp) (m : Nat) (P : Nat → V3) (bu : Nat) (tb : Nat) (fl : Nat) (co : Nat) (fa : Nat) (fb : Nat → Nat) (fs : Nat → Nat) (fr : Nat → Nat) (nn : Nat → V3) (lv : Nat → Int) (a : V3) (fat : Nat → Nat) (w : Int × V3) (cm : Int) (cX : Nat → Int) (cY : Nat → Int) (cZ : Nat → Int) (cD : Nat → Int) (su : Nat → Int) (sv : Nat → Int) (tu : Nat) (im : Nat → Int) (rk : Nat → Nat) (ba : Nat → Nat) (go : Nat → Int) : xHp := fun j => if j = 64 then some (mdC m bu tb fl co fa a w cm tu) else if j = 65 then some (zA 14 fun j => (P j).1) else if j = 66 then some (zA 14 fun j => (P j).2.1) else if j = 67 then some (zA 14 fun j => (P j).2.2) else if j = 68 then some (zA 24 fun j => (fb j : Int)) else if j = 69 then some (zA 24 fun j => (fs j : Int)) else if j = 70 then some (zA 336 fun j => (fr j : Int)) else if j = 71 then some (zA 24 fun j => (nn j).1) else if j = 72 then some (zA 24 fun j => (nn j).2.1) else if j = 73 then some (zA 24 fun j => (nn j).2.2) else if j = 74 then some (zA 24 lv) else if j = 75 then some (zA 24 fun j => (fat j : Int)) else if j = 76 then some (zL 64 cX) else if j = 77 then some (zL 64 cY) else if j = 78 then some (zL 64 cZ) else if j = 79 then some (zL 64 cD) else if j = 80 then some (zL 14 su) else if j = 81 then some (zL 14 sv) else if j = 82 then some (zA 896 im) else if j = 83 then some (zA 64 fun j => (rk j : Int)) else if j = 84 then some (zA 4 fun j => (ba j : Int)) else if j = 85 then some (zA 4 go) else h j
section MD0
variable {h : xHp} {m : Nat} {P : Nat → V3} {bu : Nat} {tb : Nat} {fl : Nat} {co : Nat} {fa : Nat} {fb : Nat → Nat} {fs : Nat → Nat} {fr : Nat → Nat} {nn : Nat → V3} {lv : Nat → Int} {a : V3} {fat : Nat → Nat} {w : Int × V3} {cm : Int} {cX : Nat → Int} {cY : Nat → Int} {cZ : Nat → Int} {cD : Nat → Int} {su : Nat → Int} {sv : Nat → Int} {tu : Nat} {im : Nat → Int} {rk : Nat → Nat} {ba : Nat → Nat} {go : Nat → Int}
theorem md64 : (mdH h m P bu tb fl co fa fb fs fr nn lv a fat w cm cX cY cZ cD su sv tu im rk ba go) 64 = some (mdC m bu tb fl co fa a w cm tu) := rfl
theorem md65 : (mdH h m P bu tb fl co fa fb fs fr nn lv a fat w cm cX cY cZ cD su sv tu im rk ba go) 65 = some (zA 14 fun j => (P j).1) := rfl
theorem md66 : (mdH h m P bu tb fl co fa fb fs fr nn lv a fat w cm cX cY cZ cD su sv tu im rk ba go) 66 = some (zA 14 fun j => (P j).2.1) := rfl
theorem md67 : (mdH h m P bu tb fl co fa fb fs fr nn lv a fat w cm cX cY cZ cD su sv tu im rk ba go) 67 = some (zA 14 fun j => (P j).2.2) := rfl
theorem md68 : (mdH h m P bu tb fl co fa fb fs fr nn lv a fat w cm cX cY cZ cD su sv tu im rk ba go) 68 = some (zA 24 fun j => (fb j : Int)) := rfl
theorem md69 : (mdH h m P bu tb fl co fa fb fs fr nn lv a fat w cm cX cY cZ cD su sv tu im rk ba go) 69 = some (zA 24 fun j => (fs j : Int)) := rfl
theorem md70 : (mdH h m P bu tb fl co fa fb fs fr nn lv a fat w cm cX cY cZ cD su sv tu im rk ba go) 70 = some (zA 336 fun j => (fr j : Int)) := rfl
theorem md71 : (mdH h m P bu tb fl co fa fb fs fr nn lv a fat w cm cX cY cZ cD su sv tu im rk ba go) 71 = some (zA 24 fun j => (nn j).1) := rfl
theorem md72 : (mdH h m P bu tb fl co fa fb fs fr nn lv a fat w cm cX cY cZ cD su sv tu im rk ba go) 72 = some (zA 24 fun j => (nn j).2.1) := rfl
theorem md73 : (mdH h m P bu tb fl co fa fb fs fr nn lv a fat w cm cX cY cZ cD su sv tu im rk ba go) 73 = some (zA 24 fun j => (nn j).2.2) := rfl
theorem md74 : (mdH h m P bu tb fl co fa fb fs fr nn lv a fat w cm cX cY cZ cD su sv tu im rk ba go) 74 = some (zA 24 lv) := rfl
theorem md75 : (mdH h m P bu tb fl co fa fb fs fr nn lv a fat w cm cX cY cZ cD su sv tu im rk ba go) 75 = some (zA 24 fun j => (fat j : Int)) := rfl
theorem md76 : (mdH h m P bu tb fl co fa fb fs fr nn lv a fat w cm cX cY cZ cD su sv tu im rk ba go) 76 = some (zL 64 cX) := rfl
theorem md77 : (mdH h m P bu tb fl co fa fb fs fr nn lv a fat w cm cX cY cZ cD su sv tu im rk ba go) 77 = some (zL 64 cY) := rfl
theorem md78 : (mdH h m P bu tb fl co fa fb fs fr nn lv a fat w cm cX cY cZ cD su sv tu im rk ba go) 78 = some (zL 64 cZ) := rfl
theorem md79 : (mdH h m P bu tb fl co fa fb fs fr nn lv a fat w cm cX cY cZ cD su sv tu im rk ba go) 79 = some (zL 64 cD) := rfl
theorem md80 : (mdH h m P bu tb fl co fa fb fs fr nn lv a fat w cm cX cY cZ cD su sv tu im rk ba go) 80 = some (zL 14 su) := rfl
theorem md81 : (mdH h m P bu tb fl co fa fb fs fr nn lv a fat w cm cX cY cZ cD su sv tu im rk ba go) 81 = some (zL 14 sv) := rfl
theorem md82 : (mdH h m P bu tb fl co fa fb fs fr nn lv a fat w cm cX cY cZ cD su sv tu im rk ba go) 82 = some (zA 896 im) := rfl
theorem md83 : (mdH h m P bu tb fl co fa fb fs fr nn lv a fat w cm cX cY cZ cD su sv tu im rk ba go) 83 = some (zA 64 fun j => (rk j : Int)) := rfl
theorem md84 : (mdH h m P bu tb fl co fa fb fs fr nn lv a fat w cm cX cY cZ cD su sv tu im rk ba go) 84 = some (zA 4 fun j => (ba j : Int)) := rfl
theorem md85 : (mdH h m P bu tb fl co fa fb fs fr nn lv a fat w cm cX cY cZ cD su sv tu im rk ba go) 85 = some (zA 4 go) := rfl
theorem md_lo {j : Nat} (hj : j < 64) : (mdH h m P bu tb fl co fa fb fs fr nn lv a fat w cm cX cY cZ cD su sv tu im rk ba go) j = h j := by
  unfold mdH
  rw [if_neg (by omega)]; rw [if_neg (by omega)]; rw [if_neg (by omega)]; rw [if_neg (by omega)]; rw [if_neg (by omega)]; rw [if_neg (by omega)]; rw [if_neg (by omega)]; rw [if_neg (by omega)]; rw [if_neg (by omega)]; rw [if_neg (by omega)]; rw [if_neg (by omega)]; rw [if_neg (by omega)]; rw [if_neg (by omega)]; rw [if_neg (by omega)]; rw [if_neg (by omega)]; rw [if_neg (by omega)]; rw [if_neg (by omega)]; rw [if_neg (by omega)]; rw [if_neg (by omega)]; rw [if_neg (by omega)]; rw [if_neg (by omega)]; rw [if_neg (by omega)]
theorem mdu64 {m' bu' tb' fl' co' fa' : Nat} {a' : V3} {w' : Int × V3} {cm' : Int} {tu' : Nat} : xup (mdH h m P bu tb fl co fa fb fs fr nn lv a fat w cm cX cY cZ cD su sv tu im rk ba go) 64 (mdC m' bu' tb' fl' co' fa' a' w' cm' tu') = (mdH h (m') P (bu') (tb') (fl') (co') (fa') fb fs fr nn lv (a') fat (w') (cm') cX cY cZ cD su sv (tu') im rk ba go) := by
  funext j
  by_cases hj : j = 64
  · subst hj; rfl
  · rw [xup_n hj]; unfold mdH; simp only [if_neg hj]
theorem mdu68 {F : Nat → Nat} : xup (mdH h m P bu tb fl co fa fb fs fr nn lv a fat w cm cX cY cZ cD su sv tu im rk ba go) 68 (zA 24 fun j => (F j : Int)) = (mdH h m P bu tb fl co fa (F) fs fr nn lv a fat w cm cX cY cZ cD su sv tu im rk ba go) := by
  funext j
  by_cases hj : j = 68
  · subst hj; rfl
  · rw [xup_n hj]; unfold mdH; simp only [if_neg hj]
theorem mdu69 {F : Nat → Nat} : xup (mdH h m P bu tb fl co fa fb fs fr nn lv a fat w cm cX cY cZ cD su sv tu im rk ba go) 69 (zA 24 fun j => (F j : Int)) = (mdH h m P bu tb fl co fa fb (F) fr nn lv a fat w cm cX cY cZ cD su sv tu im rk ba go) := by
  funext j
  by_cases hj : j = 69
  · subst hj; rfl
  · rw [xup_n hj]; unfold mdH; simp only [if_neg hj]
theorem mdu70 {F : Nat → Nat} : xup (mdH h m P bu tb fl co fa fb fs fr nn lv a fat w cm cX cY cZ cD su sv tu im rk ba go) 70 (zA 336 fun j => (F j : Int)) = (mdH h m P bu tb fl co fa fb fs (F) nn lv a fat w cm cX cY cZ cD su sv tu im rk ba go) := by
  funext j
  by_cases hj : j = 70
  · subst hj; rfl
  · rw [xup_n hj]; unfold mdH; simp only [if_neg hj]
theorem mdu75 {F : Nat → Nat} : xup (mdH h m P bu tb fl co fa fb fs fr nn lv a fat w cm cX cY cZ cD su sv tu im rk ba go) 75 (zA 24 fun j => (F j : Int)) = (mdH h m P bu tb fl co fa fb fs fr nn lv a (F) w cm cX cY cZ cD su sv tu im rk ba go) := by
  funext j
  by_cases hj : j = 75
  · subst hj; rfl
  · rw [xup_n hj]; unfold mdH; simp only [if_neg hj]
theorem mdu83 {F : Nat → Nat} : xup (mdH h m P bu tb fl co fa fb fs fr nn lv a fat w cm cX cY cZ cD su sv tu im rk ba go) 83 (zA 64 fun j => (F j : Int)) = (mdH h m P bu tb fl co fa fb fs fr nn lv a fat w cm cX cY cZ cD su sv tu im (F) ba go) := by
  funext j
  by_cases hj : j = 83
  · subst hj; rfl
  · rw [xup_n hj]; unfold mdH; simp only [if_neg hj]
theorem mdu84 {F : Nat → Nat} : xup (mdH h m P bu tb fl co fa fb fs fr nn lv a fat w cm cX cY cZ cD su sv tu im rk ba go) 84 (zA 4 fun j => (F j : Int)) = (mdH h m P bu tb fl co fa fb fs fr nn lv a fat w cm cX cY cZ cD su sv tu im rk (F) go) := by
  funext j
  by_cases hj : j = 84
  · subst hj; rfl
  · rw [xup_n hj]; unfold mdH; simp only [if_neg hj]
theorem mdu74 {F : Nat → Int} : xup (mdH h m P bu tb fl co fa fb fs fr nn lv a fat w cm cX cY cZ cD su sv tu im rk ba go) 74 (zA 24 F) = (mdH h m P bu tb fl co fa fb fs fr nn (F) a fat w cm cX cY cZ cD su sv tu im rk ba go) := by
  funext j
  by_cases hj : j = 74
  · subst hj; rfl
  · rw [xup_n hj]; unfold mdH; simp only [if_neg hj]
theorem mdu76 {F : Nat → Int} : xup (mdH h m P bu tb fl co fa fb fs fr nn lv a fat w cm cX cY cZ cD su sv tu im rk ba go) 76 (zL 64 F) = (mdH h m P bu tb fl co fa fb fs fr nn lv a fat w cm (F) cY cZ cD su sv tu im rk ba go) := by
  funext j
  by_cases hj : j = 76
  · subst hj; rfl
  · rw [xup_n hj]; unfold mdH; simp only [if_neg hj]
theorem mdu77 {F : Nat → Int} : xup (mdH h m P bu tb fl co fa fb fs fr nn lv a fat w cm cX cY cZ cD su sv tu im rk ba go) 77 (zL 64 F) = (mdH h m P bu tb fl co fa fb fs fr nn lv a fat w cm cX (F) cZ cD su sv tu im rk ba go) := by
  funext j
  by_cases hj : j = 77
  · subst hj; rfl
  · rw [xup_n hj]; unfold mdH; simp only [if_neg hj]
theorem mdu78 {F : Nat → Int} : xup (mdH h m P bu tb fl co fa fb fs fr nn lv a fat w cm cX cY cZ cD su sv tu im rk ba go) 78 (zL 64 F) = (mdH h m P bu tb fl co fa fb fs fr nn lv a fat w cm cX cY (F) cD su sv tu im rk ba go) := by
  funext j
  by_cases hj : j = 78
  · subst hj; rfl
  · rw [xup_n hj]; unfold mdH; simp only [if_neg hj]
theorem mdu79 {F : Nat → Int} : xup (mdH h m P bu tb fl co fa fb fs fr nn lv a fat w cm cX cY cZ cD su sv tu im rk ba go) 79 (zL 64 F) = (mdH h m P bu tb fl co fa fb fs fr nn lv a fat w cm cX cY cZ (F) su sv tu im rk ba go) := by
  funext j
  by_cases hj : j = 79
  · subst hj; rfl
  · rw [xup_n hj]; unfold mdH; simp only [if_neg hj]
theorem mdu80 {F : Nat → Int} : xup (mdH h m P bu tb fl co fa fb fs fr nn lv a fat w cm cX cY cZ cD su sv tu im rk ba go) 80 (zL 14 F) = (mdH h m P bu tb fl co fa fb fs fr nn lv a fat w cm cX cY cZ cD (F) sv tu im rk ba go) := by
  funext j
  by_cases hj : j = 80
  · subst hj; rfl
  · rw [xup_n hj]; unfold mdH; simp only [if_neg hj]
theorem mdu81 {F : Nat → Int} : xup (mdH h m P bu tb fl co fa fb fs fr nn lv a fat w cm cX cY cZ cD su sv tu im rk ba go) 81 (zL 14 F) = (mdH h m P bu tb fl co fa fb fs fr nn lv a fat w cm cX cY cZ cD su (F) tu im rk ba go) := by
  funext j
  by_cases hj : j = 81
  · subst hj; rfl
  · rw [xup_n hj]; unfold mdH; simp only [if_neg hj]
theorem mdu82 {F : Nat → Int} : xup (mdH h m P bu tb fl co fa fb fs fr nn lv a fat w cm cX cY cZ cD su sv tu im rk ba go) 82 (zA 896 F) = (mdH h m P bu tb fl co fa fb fs fr nn lv a fat w cm cX cY cZ cD su sv tu (F) rk ba go) := by
  funext j
  by_cases hj : j = 82
  · subst hj; rfl
  · rw [xup_n hj]; unfold mdH; simp only [if_neg hj]
theorem mdu85 {F : Nat → Int} : xup (mdH h m P bu tb fl co fa fb fs fr nn lv a fat w cm cX cY cZ cD su sv tu im rk ba go) 85 (zA 4 F) = (mdH h m P bu tb fl co fa fb fs fr nn lv a fat w cm cX cY cZ cD su sv tu im rk ba (F)) := by
  funext j
  by_cases hj : j = 85
  · subst hj; rfl
  · rw [xup_n hj]; unfold mdH; simp only [if_neg hj]
end MD0
theorem nn_1 (nn : Nat → V3) (k : Nat) (x : Int) : zup (fun j => (nn j).1) k x = fun j => (vup nn k (x, (nn k).2) j).1 := by funext j; unfold zup vup; split <;> rfl
theorem nn_2 (nn : Nat → V3) (k : Nat) (x : Int) : zup (fun j => (nn j).2.1) k x = fun j => (vup nn k ((nn k).1, x, (nn k).2.2) j).2.1 := by funext j; unfold zup vup; split <;> rfl
theorem nn_3 (nn : Nat → V3) (k : Nat) (x : Int) : zup (fun j => (nn j).2.2) k x = fun j => (vup nn k ((nn k).1, (nn k).2.1, x) j).2.2 := by funext j; unfold zup vup; split <;> rfl
theorem vup_k1 (nn : Nat → V3) (k : Nat) (x : Int) : (fun j => (nn j).2.1) = fun j => (vup nn k (x, (nn k).2) j).2.1 := by funext j; unfold vup; split <;> simp_all
theorem vup_k2 (nn : Nat → V3) (k : Nat) (x : Int) : (fun j => (nn j).2.2) = fun j => (vup nn k (x, (nn k).2) j).2.2 := by funext j; unfold vup; split <;> simp_all
theorem vup_k3 (nn : Nat → V3) (k : Nat) (x : Int) : (fun j => (nn j).1) = fun j => (vup nn k ((nn k).1, x, (nn k).2.2) j).1 := by funext j; unfold vup; split <;> simp_all
theorem vup_k4 (nn : Nat → V3) (k : Nat) (x : Int) : (fun j => (nn j).2.2) = fun j => (vup nn k ((nn k).1, x, (nn k).2.2) j).2.2 := by funext j; unfold vup; split <;> simp_all
theorem vup_k5 (nn : Nat → V3) (k : Nat) (x : Int) : (fun j => (nn j).1) = fun j => (vup nn k ((nn k).1, (nn k).2.1, x) j).1 := by funext j; unfold vup; split <;> simp_all
theorem vup_k6 (nn : Nat → V3) (k : Nat) (x : Int) : (fun j => (nn j).2.1) = fun j => (vup nn k ((nn k).1, (nn k).2.1, x) j).2.1 := by funext j; unfold vup; split <;> simp_all
section MD1
variable {h : xHp} {m : Nat} {P : Nat → V3} {bu : Nat} {tb : Nat} {fl : Nat} {co : Nat} {fa : Nat} {fb : Nat → Nat} {fs : Nat → Nat} {fr : Nat → Nat} {nn : Nat → V3} {lv : Nat → Int} {a : V3} {fat : Nat → Nat} {w : Int × V3} {cm : Int} {cX : Nat → Int} {cY : Nat → Int} {cZ : Nat → Int} {cD : Nat → Int} {su : Nat → Int} {sv : Nat → Int} {tu : Nat} {im : Nat → Int} {rk : Nat → Nat} {ba : Nat → Nat} {go : Nat → Int}
variable {M : xM} {B : xB} {pc nx b hh i : Nat} {l : xL} {st : List Value} {n : Nat} {Q : xQt}
theorem md_pm {x : Nat} (hf : xfe M pc = some (.putfield i, nx, 6, 0, hh)) (hfin : xfin M 6 0 = true) (kk : xT M B nx l st n (mdH h (x) P bu tb fl co fa fb fs fr nn lv a fat w cm cX cY cZ cD su sv tu im rk ba go) Q) : xT M B pc l (zI x :: .ref 64 :: st) n (mdH h m P bu tb fl co fa fb fs fr nn lv a fat w cm cX cY cZ cD su sv tu im rk ba go) Q := by
  refine tt_put hf md64 rfl hfin (by rfl) (by rfl) rfl ?_
  have e := mdu64 (h := h) (P := P) (fb := fb) (fs := fs) (fr := fr) (nn := nn) (lv := lv) (fat := fat) (cX := cX) (cY := cY) (cZ := cZ) (cD := cD) (su := su) (sv := sv) (im := im) (rk := rk) (ba := ba) (go := go) (m := m) (bu := bu) (tb := tb) (fl := fl) (co := co) (fa := fa) (a := a) (w := w) (cm := cm) (tu := tu) (m' := x) (bu' := bu) (tb' := tb) (fl' := fl) (co' := co) (fa' := fa) (a' := a) (w' := w) (cm' := cm) (tu' := tu)
  have e2 : xT M B nx l st n (xup (mdH h m P bu tb fl co fa fb fs fr nn lv a fat w cm cX cY cZ cD su sv tu im rk ba go) 64 (mdC (x) (bu) (tb) (fl) (co) (fa) (a) (w) (cm) (tu))) Q := by rw [e]; exact kk
  exact e2
theorem md_pbu {x : Nat} (hx : x = 0 ∨ x = 1) (hf : xfe M pc = some (.putfield i, nx, 6, 4, hh)) (hfin : xfin M 6 4 = true) (kk : xT M B nx l st n (mdH h m P (x) tb fl co fa fb fs fr nn lv a fat w cm cX cY cZ cD su sv tu im rk ba go) Q) : xT M B pc l (zI x :: .ref 64 :: st) n (mdH h m P bu tb fl co fa fb fs fr nn lv a fat w cm cX cY cZ cD su sv tu im rk ba go) Q := by
  refine tt_put hf md64 rfl hfin (by rcases hx with rfl | rfl <;> rfl) (by rcases hx with rfl | rfl <;> rfl) rfl ?_
  have e := mdu64 (h := h) (P := P) (fb := fb) (fs := fs) (fr := fr) (nn := nn) (lv := lv) (fat := fat) (cX := cX) (cY := cY) (cZ := cZ) (cD := cD) (su := su) (sv := sv) (im := im) (rk := rk) (ba := ba) (go := go) (m := m) (bu := bu) (tb := tb) (fl := fl) (co := co) (fa := fa) (a := a) (w := w) (cm := cm) (tu := tu) (m' := m) (bu' := x) (tb' := tb) (fl' := fl) (co' := co) (fa' := fa) (a' := a) (w' := w) (cm' := cm) (tu' := tu)
  have e2 : xT M B nx l st n (xup (mdH h m P bu tb fl co fa fb fs fr nn lv a fat w cm cX cY cZ cD su sv tu im rk ba go) 64 (mdC (m) (x) (tb) (fl) (co) (fa) (a) (w) (cm) (tu))) Q := by rw [e]; exact kk
  exact e2
theorem md_ptb {x : Nat} (hx : x = 0 ∨ x = 1) (hf : xfe M pc = some (.putfield i, nx, 6, 5, hh)) (hfin : xfin M 6 5 = true) (kk : xT M B nx l st n (mdH h m P bu (x) fl co fa fb fs fr nn lv a fat w cm cX cY cZ cD su sv tu im rk ba go) Q) : xT M B pc l (zI x :: .ref 64 :: st) n (mdH h m P bu tb fl co fa fb fs fr nn lv a fat w cm cX cY cZ cD su sv tu im rk ba go) Q := by
  refine tt_put hf md64 rfl hfin (by rcases hx with rfl | rfl <;> rfl) (by rcases hx with rfl | rfl <;> rfl) rfl ?_
  have e := mdu64 (h := h) (P := P) (fb := fb) (fs := fs) (fr := fr) (nn := nn) (lv := lv) (fat := fat) (cX := cX) (cY := cY) (cZ := cZ) (cD := cD) (su := su) (sv := sv) (im := im) (rk := rk) (ba := ba) (go := go) (m := m) (bu := bu) (tb := tb) (fl := fl) (co := co) (fa := fa) (a := a) (w := w) (cm := cm) (tu := tu) (m' := m) (bu' := bu) (tb' := x) (fl' := fl) (co' := co) (fa' := fa) (a' := a) (w' := w) (cm' := cm) (tu' := tu)
  have e2 : xT M B nx l st n (xup (mdH h m P bu tb fl co fa fb fs fr nn lv a fat w cm cX cY cZ cD su sv tu im rk ba go) 64 (mdC (m) (bu) (x) (fl) (co) (fa) (a) (w) (cm) (tu))) Q := by rw [e]; exact kk
  exact e2
theorem md_pfl {x : Nat} (hx : x = 0 ∨ x = 1) (hf : xfe M pc = some (.putfield i, nx, 6, 6, hh)) (hfin : xfin M 6 6 = true) (kk : xT M B nx l st n (mdH h m P bu tb (x) co fa fb fs fr nn lv a fat w cm cX cY cZ cD su sv tu im rk ba go) Q) : xT M B pc l (zI x :: .ref 64 :: st) n (mdH h m P bu tb fl co fa fb fs fr nn lv a fat w cm cX cY cZ cD su sv tu im rk ba go) Q := by
  refine tt_put hf md64 rfl hfin (by rcases hx with rfl | rfl <;> rfl) (by rcases hx with rfl | rfl <;> rfl) rfl ?_
  have e := mdu64 (h := h) (P := P) (fb := fb) (fs := fs) (fr := fr) (nn := nn) (lv := lv) (fat := fat) (cX := cX) (cY := cY) (cZ := cZ) (cD := cD) (su := su) (sv := sv) (im := im) (rk := rk) (ba := ba) (go := go) (m := m) (bu := bu) (tb := tb) (fl := fl) (co := co) (fa := fa) (a := a) (w := w) (cm := cm) (tu := tu) (m' := m) (bu' := bu) (tb' := tb) (fl' := x) (co' := co) (fa' := fa) (a' := a) (w' := w) (cm' := cm) (tu' := tu)
  have e2 : xT M B nx l st n (xup (mdH h m P bu tb fl co fa fb fs fr nn lv a fat w cm cX cY cZ cD su sv tu im rk ba go) 64 (mdC (m) (bu) (tb) (x) (co) (fa) (a) (w) (cm) (tu))) Q := by rw [e]; exact kk
  exact e2
theorem md_pco {x : Nat} (hf : xfe M pc = some (.putfield i, nx, 6, 7, hh)) (hfin : xfin M 6 7 = true) (kk : xT M B nx l st n (mdH h m P bu tb fl (x) fa fb fs fr nn lv a fat w cm cX cY cZ cD su sv tu im rk ba go) Q) : xT M B pc l (zI x :: .ref 64 :: st) n (mdH h m P bu tb fl co fa fb fs fr nn lv a fat w cm cX cY cZ cD su sv tu im rk ba go) Q := by
  refine tt_put hf md64 rfl hfin (by rfl) (by rfl) rfl ?_
  have e := mdu64 (h := h) (P := P) (fb := fb) (fs := fs) (fr := fr) (nn := nn) (lv := lv) (fat := fat) (cX := cX) (cY := cY) (cZ := cZ) (cD := cD) (su := su) (sv := sv) (im := im) (rk := rk) (ba := ba) (go := go) (m := m) (bu := bu) (tb := tb) (fl := fl) (co := co) (fa := fa) (a := a) (w := w) (cm := cm) (tu := tu) (m' := m) (bu' := bu) (tb' := tb) (fl' := fl) (co' := x) (fa' := fa) (a' := a) (w' := w) (cm' := cm) (tu' := tu)
  have e2 : xT M B nx l st n (xup (mdH h m P bu tb fl co fa fb fs fr nn lv a fat w cm cX cY cZ cD su sv tu im rk ba go) 64 (mdC (m) (bu) (tb) (fl) (x) (fa) (a) (w) (cm) (tu))) Q := by rw [e]; exact kk
  exact e2
theorem md_pfa {x : Nat} (hf : xfe M pc = some (.putfield i, nx, 6, 8, hh)) (hfin : xfin M 6 8 = true) (kk : xT M B nx l st n (mdH h m P bu tb fl co (x) fb fs fr nn lv a fat w cm cX cY cZ cD su sv tu im rk ba go) Q) : xT M B pc l (zI x :: .ref 64 :: st) n (mdH h m P bu tb fl co fa fb fs fr nn lv a fat w cm cX cY cZ cD su sv tu im rk ba go) Q := by
  refine tt_put hf md64 rfl hfin (by rfl) (by rfl) rfl ?_
  have e := mdu64 (h := h) (P := P) (fb := fb) (fs := fs) (fr := fr) (nn := nn) (lv := lv) (fat := fat) (cX := cX) (cY := cY) (cZ := cZ) (cD := cD) (su := su) (sv := sv) (im := im) (rk := rk) (ba := ba) (go := go) (m := m) (bu := bu) (tb := tb) (fl := fl) (co := co) (fa := fa) (a := a) (w := w) (cm := cm) (tu := tu) (m' := m) (bu' := bu) (tb' := tb) (fl' := fl) (co' := co) (fa' := x) (a' := a) (w' := w) (cm' := cm) (tu' := tu)
  have e2 : xT M B nx l st n (xup (mdH h m P bu tb fl co fa fb fs fr nn lv a fat w cm cX cY cZ cD su sv tu im rk ba go) 64 (mdC (m) (bu) (tb) (fl) (co) (x) (a) (w) (cm) (tu))) Q := by rw [e]; exact kk
  exact e2
theorem md_pax {x : Int} (hf : xfe M pc = some (.putfield i, nx, 6, 16, hh)) (hfin : xfin M 6 16 = true) (kk : xT M B nx l st n (mdH h m P bu tb fl co fa fb fs fr nn lv ((x, a.2)) fat w cm cX cY cZ cD su sv tu im rk ba go) Q) : xT M B pc l (zI x :: .ref 64 :: st) n (mdH h m P bu tb fl co fa fb fs fr nn lv a fat w cm cX cY cZ cD su sv tu im rk ba go) Q := by
  refine tt_put hf md64 rfl hfin (by rfl) (by rfl) rfl ?_
  have e := mdu64 (h := h) (P := P) (fb := fb) (fs := fs) (fr := fr) (nn := nn) (lv := lv) (fat := fat) (cX := cX) (cY := cY) (cZ := cZ) (cD := cD) (su := su) (sv := sv) (im := im) (rk := rk) (ba := ba) (go := go) (m := m) (bu := bu) (tb := tb) (fl := fl) (co := co) (fa := fa) (a := a) (w := w) (cm := cm) (tu := tu) (m' := m) (bu' := bu) (tb' := tb) (fl' := fl) (co' := co) (fa' := fa) (a' := (x, a.2)) (w' := w) (cm' := cm) (tu' := tu)
  have e2 : xT M B nx l st n (xup (mdH h m P bu tb fl co fa fb fs fr nn lv a fat w cm cX cY cZ cD su sv tu im rk ba go) 64 (mdC (m) (bu) (tb) (fl) (co) (fa) ((x, a.2)) (w) (cm) (tu))) Q := by rw [e]; exact kk
  exact e2
theorem md_pay {x : Int} (hf : xfe M pc = some (.putfield i, nx, 6, 17, hh)) (hfin : xfin M 6 17 = true) (kk : xT M B nx l st n (mdH h m P bu tb fl co fa fb fs fr nn lv ((a.1, x, a.2.2)) fat w cm cX cY cZ cD su sv tu im rk ba go) Q) : xT M B pc l (zI x :: .ref 64 :: st) n (mdH h m P bu tb fl co fa fb fs fr nn lv a fat w cm cX cY cZ cD su sv tu im rk ba go) Q := by
  refine tt_put hf md64 rfl hfin (by rfl) (by rfl) rfl ?_
  have e := mdu64 (h := h) (P := P) (fb := fb) (fs := fs) (fr := fr) (nn := nn) (lv := lv) (fat := fat) (cX := cX) (cY := cY) (cZ := cZ) (cD := cD) (su := su) (sv := sv) (im := im) (rk := rk) (ba := ba) (go := go) (m := m) (bu := bu) (tb := tb) (fl := fl) (co := co) (fa := fa) (a := a) (w := w) (cm := cm) (tu := tu) (m' := m) (bu' := bu) (tb' := tb) (fl' := fl) (co' := co) (fa' := fa) (a' := (a.1, x, a.2.2)) (w' := w) (cm' := cm) (tu' := tu)
  have e2 : xT M B nx l st n (xup (mdH h m P bu tb fl co fa fb fs fr nn lv a fat w cm cX cY cZ cD su sv tu im rk ba go) 64 (mdC (m) (bu) (tb) (fl) (co) (fa) ((a.1, x, a.2.2)) (w) (cm) (tu))) Q := by rw [e]; exact kk
  exact e2
theorem md_paz {x : Int} (hf : xfe M pc = some (.putfield i, nx, 6, 18, hh)) (hfin : xfin M 6 18 = true) (kk : xT M B nx l st n (mdH h m P bu tb fl co fa fb fs fr nn lv ((a.1, a.2.1, x)) fat w cm cX cY cZ cD su sv tu im rk ba go) Q) : xT M B pc l (zI x :: .ref 64 :: st) n (mdH h m P bu tb fl co fa fb fs fr nn lv a fat w cm cX cY cZ cD su sv tu im rk ba go) Q := by
  refine tt_put hf md64 rfl hfin (by rfl) (by rfl) rfl ?_
  have e := mdu64 (h := h) (P := P) (fb := fb) (fs := fs) (fr := fr) (nn := nn) (lv := lv) (fat := fat) (cX := cX) (cY := cY) (cZ := cZ) (cD := cD) (su := su) (sv := sv) (im := im) (rk := rk) (ba := ba) (go := go) (m := m) (bu := bu) (tb := tb) (fl := fl) (co := co) (fa := fa) (a := a) (w := w) (cm := cm) (tu := tu) (m' := m) (bu' := bu) (tb' := tb) (fl' := fl) (co' := co) (fa' := fa) (a' := (a.1, a.2.1, x)) (w' := w) (cm' := cm) (tu' := tu)
  have e2 : xT M B nx l st n (xup (mdH h m P bu tb fl co fa fb fs fr nn lv a fat w cm cX cY cZ cD su sv tu im rk ba go) 64 (mdC (m) (bu) (tb) (fl) (co) (fa) ((a.1, a.2.1, x)) (w) (cm) (tu))) Q := by rw [e]; exact kk
  exact e2
theorem md_psix {x : Int} (hf : xfe M pc = some (.putfield i, nx, 6, 20, hh)) (hfin : xfin M 6 20 = true) (kk : xT M B nx l st n (mdH h m P bu tb fl co fa fb fs fr nn lv a fat ((x, w.2)) cm cX cY cZ cD su sv tu im rk ba go) Q) : xT M B pc l (zJ x :: .ref 64 :: st) n (mdH h m P bu tb fl co fa fb fs fr nn lv a fat w cm cX cY cZ cD su sv tu im rk ba go) Q := by
  refine tt_put hf md64 rfl hfin (by rfl) (by rfl) rfl ?_
  have e := mdu64 (h := h) (P := P) (fb := fb) (fs := fs) (fr := fr) (nn := nn) (lv := lv) (fat := fat) (cX := cX) (cY := cY) (cZ := cZ) (cD := cD) (su := su) (sv := sv) (im := im) (rk := rk) (ba := ba) (go := go) (m := m) (bu := bu) (tb := tb) (fl := fl) (co := co) (fa := fa) (a := a) (w := w) (cm := cm) (tu := tu) (m' := m) (bu' := bu) (tb' := tb) (fl' := fl) (co' := co) (fa' := fa) (a' := a) (w' := (x, w.2)) (cm' := cm) (tu' := tu)
  have e2 : xT M B nx l st n (xup (mdH h m P bu tb fl co fa fb fs fr nn lv a fat w cm cX cY cZ cD su sv tu im rk ba go) 64 (mdC (m) (bu) (tb) (fl) (co) (fa) (a) ((x, w.2)) (cm) (tu))) Q := by rw [e]; exact kk
  exact e2
theorem md_psx {x : Int} (hf : xfe M pc = some (.putfield i, nx, 6, 21, hh)) (hfin : xfin M 6 21 = true) (kk : xT M B nx l st n (mdH h m P bu tb fl co fa fb fs fr nn lv a fat ((w.1, x, w.2.2)) cm cX cY cZ cD su sv tu im rk ba go) Q) : xT M B pc l (zJ x :: .ref 64 :: st) n (mdH h m P bu tb fl co fa fb fs fr nn lv a fat w cm cX cY cZ cD su sv tu im rk ba go) Q := by
  refine tt_put hf md64 rfl hfin (by rfl) (by rfl) rfl ?_
  have e := mdu64 (h := h) (P := P) (fb := fb) (fs := fs) (fr := fr) (nn := nn) (lv := lv) (fat := fat) (cX := cX) (cY := cY) (cZ := cZ) (cD := cD) (su := su) (sv := sv) (im := im) (rk := rk) (ba := ba) (go := go) (m := m) (bu := bu) (tb := tb) (fl := fl) (co := co) (fa := fa) (a := a) (w := w) (cm := cm) (tu := tu) (m' := m) (bu' := bu) (tb' := tb) (fl' := fl) (co' := co) (fa' := fa) (a' := a) (w' := (w.1, x, w.2.2)) (cm' := cm) (tu' := tu)
  have e2 : xT M B nx l st n (xup (mdH h m P bu tb fl co fa fb fs fr nn lv a fat w cm cX cY cZ cD su sv tu im rk ba go) 64 (mdC (m) (bu) (tb) (fl) (co) (fa) (a) ((w.1, x, w.2.2)) (cm) (tu))) Q := by rw [e]; exact kk
  exact e2
theorem md_psy {x : Int} (hf : xfe M pc = some (.putfield i, nx, 6, 22, hh)) (hfin : xfin M 6 22 = true) (kk : xT M B nx l st n (mdH h m P bu tb fl co fa fb fs fr nn lv a fat ((w.1, w.2.1, x, w.2.2.2)) cm cX cY cZ cD su sv tu im rk ba go) Q) : xT M B pc l (zJ x :: .ref 64 :: st) n (mdH h m P bu tb fl co fa fb fs fr nn lv a fat w cm cX cY cZ cD su sv tu im rk ba go) Q := by
  refine tt_put hf md64 rfl hfin (by rfl) (by rfl) rfl ?_
  have e := mdu64 (h := h) (P := P) (fb := fb) (fs := fs) (fr := fr) (nn := nn) (lv := lv) (fat := fat) (cX := cX) (cY := cY) (cZ := cZ) (cD := cD) (su := su) (sv := sv) (im := im) (rk := rk) (ba := ba) (go := go) (m := m) (bu := bu) (tb := tb) (fl := fl) (co := co) (fa := fa) (a := a) (w := w) (cm := cm) (tu := tu) (m' := m) (bu' := bu) (tb' := tb) (fl' := fl) (co' := co) (fa' := fa) (a' := a) (w' := (w.1, w.2.1, x, w.2.2.2)) (cm' := cm) (tu' := tu)
  have e2 : xT M B nx l st n (xup (mdH h m P bu tb fl co fa fb fs fr nn lv a fat w cm cX cY cZ cD su sv tu im rk ba go) 64 (mdC (m) (bu) (tb) (fl) (co) (fa) (a) ((w.1, w.2.1, x, w.2.2.2)) (cm) (tu))) Q := by rw [e]; exact kk
  exact e2
theorem md_psz {x : Int} (hf : xfe M pc = some (.putfield i, nx, 6, 23, hh)) (hfin : xfin M 6 23 = true) (kk : xT M B nx l st n (mdH h m P bu tb fl co fa fb fs fr nn lv a fat ((w.1, w.2.1, w.2.2.1, x)) cm cX cY cZ cD su sv tu im rk ba go) Q) : xT M B pc l (zJ x :: .ref 64 :: st) n (mdH h m P bu tb fl co fa fb fs fr nn lv a fat w cm cX cY cZ cD su sv tu im rk ba go) Q := by
  refine tt_put hf md64 rfl hfin (by rfl) (by rfl) rfl ?_
  have e := mdu64 (h := h) (P := P) (fb := fb) (fs := fs) (fr := fr) (nn := nn) (lv := lv) (fat := fat) (cX := cX) (cY := cY) (cZ := cZ) (cD := cD) (su := su) (sv := sv) (im := im) (rk := rk) (ba := ba) (go := go) (m := m) (bu := bu) (tb := tb) (fl := fl) (co := co) (fa := fa) (a := a) (w := w) (cm := cm) (tu := tu) (m' := m) (bu' := bu) (tb' := tb) (fl' := fl) (co' := co) (fa' := fa) (a' := a) (w' := (w.1, w.2.1, w.2.2.1, x)) (cm' := cm) (tu' := tu)
  have e2 : xT M B nx l st n (xup (mdH h m P bu tb fl co fa fb fs fr nn lv a fat w cm cX cY cZ cD su sv tu im rk ba go) 64 (mdC (m) (bu) (tb) (fl) (co) (fa) (a) ((w.1, w.2.1, w.2.2.1, x)) (cm) (tu))) Q := by rw [e]; exact kk
  exact e2
theorem md_pcm {x : Int} (hf : xfe M pc = some (.putfield i, nx, 6, 24, hh)) (hfin : xfin M 6 24 = true) (kk : xT M B nx l st n (mdH h m P bu tb fl co fa fb fs fr nn lv a fat w (x) cX cY cZ cD su sv tu im rk ba go) Q) : xT M B pc l (zI x :: .ref 64 :: st) n (mdH h m P bu tb fl co fa fb fs fr nn lv a fat w cm cX cY cZ cD su sv tu im rk ba go) Q := by
  refine tt_put hf md64 rfl hfin (by rfl) (by rfl) rfl ?_
  have e := mdu64 (h := h) (P := P) (fb := fb) (fs := fs) (fr := fr) (nn := nn) (lv := lv) (fat := fat) (cX := cX) (cY := cY) (cZ := cZ) (cD := cD) (su := su) (sv := sv) (im := im) (rk := rk) (ba := ba) (go := go) (m := m) (bu := bu) (tb := tb) (fl := fl) (co := co) (fa := fa) (a := a) (w := w) (cm := cm) (tu := tu) (m' := m) (bu' := bu) (tb' := tb) (fl' := fl) (co' := co) (fa' := fa) (a' := a) (w' := w) (cm' := x) (tu' := tu)
  have e2 : xT M B nx l st n (xup (mdH h m P bu tb fl co fa fb fs fr nn lv a fat w cm cX cY cZ cD su sv tu im rk ba go) 64 (mdC (m) (bu) (tb) (fl) (co) (fa) (a) (w) (x) (tu))) Q := by rw [e]; exact kk
  exact e2
theorem md_ptu {x : Nat} (hf : xfe M pc = some (.putfield i, nx, 6, 31, hh)) (hfin : xfin M 6 31 = true) (kk : xT M B nx l st n (mdH h m P bu tb fl co fa fb fs fr nn lv a fat w cm cX cY cZ cD su sv (x) im rk ba go) Q) : xT M B pc l (zI x :: .ref 64 :: st) n (mdH h m P bu tb fl co fa fb fs fr nn lv a fat w cm cX cY cZ cD su sv tu im rk ba go) Q := by
  refine tt_put hf md64 rfl hfin (by rfl) (by rfl) rfl ?_
  have e := mdu64 (h := h) (P := P) (fb := fb) (fs := fs) (fr := fr) (nn := nn) (lv := lv) (fat := fat) (cX := cX) (cY := cY) (cZ := cZ) (cD := cD) (su := su) (sv := sv) (im := im) (rk := rk) (ba := ba) (go := go) (m := m) (bu := bu) (tb := tb) (fl := fl) (co := co) (fa := fa) (a := a) (w := w) (cm := cm) (tu := tu) (m' := m) (bu' := bu) (tb' := tb) (fl' := fl) (co' := co) (fa' := fa) (a' := a) (w' := w) (cm' := cm) (tu' := x)
  have e2 : xT M B nx l st n (xup (mdH h m P bu tb fl co fa fb fs fr nn lv a fat w cm cX cY cZ cD su sv tu im rk ba go) 64 (mdC (m) (bu) (tb) (fl) (co) (fa) (a) (w) (cm) (x))) Q := by rw [e]; exact kk
  exact e2
theorem md_s68 {z aa : Int} {j y : Nat} (hf : xfe M pc = some (.iastore, nx, aa, b, hh)) (hj : z = (j : Int)) (hi : j < 24) (kk : xT M B nx l st n (mdH h m P bu tb fl co fa (nup fb j y) fs fr nn lv a fat w cm cX cY cZ cD su sv tu im rk ba go) Q) : xT M B pc l (zI y :: zI z :: .ref 68 :: st) n (mdH h m P bu tb fl co fa fb fs fr nn lv a fat w cm cX cY cZ cD su sv tu im rk ba go) Q := by
  refine z_iast hf md68 hj hi (by decide) ?_
  rw [zup_nup, mdu68]; exact kk
theorem md_s69 {z aa : Int} {j y : Nat} (hf : xfe M pc = some (.iastore, nx, aa, b, hh)) (hj : z = (j : Int)) (hi : j < 24) (kk : xT M B nx l st n (mdH h m P bu tb fl co fa fb (nup fs j y) fr nn lv a fat w cm cX cY cZ cD su sv tu im rk ba go) Q) : xT M B pc l (zI y :: zI z :: .ref 69 :: st) n (mdH h m P bu tb fl co fa fb fs fr nn lv a fat w cm cX cY cZ cD su sv tu im rk ba go) Q := by
  refine z_iast hf md69 hj hi (by decide) ?_
  rw [zup_nup, mdu69]; exact kk
theorem md_s70 {z aa : Int} {j y : Nat} (hf : xfe M pc = some (.iastore, nx, aa, b, hh)) (hj : z = (j : Int)) (hi : j < 336) (kk : xT M B nx l st n (mdH h m P bu tb fl co fa fb fs (nup fr j y) nn lv a fat w cm cX cY cZ cD su sv tu im rk ba go) Q) : xT M B pc l (zI y :: zI z :: .ref 70 :: st) n (mdH h m P bu tb fl co fa fb fs fr nn lv a fat w cm cX cY cZ cD su sv tu im rk ba go) Q := by
  refine z_iast hf md70 hj hi (by decide) ?_
  rw [zup_nup, mdu70]; exact kk
theorem md_s75 {z aa : Int} {j y : Nat} (hf : xfe M pc = some (.iastore, nx, aa, b, hh)) (hj : z = (j : Int)) (hi : j < 24) (kk : xT M B nx l st n (mdH h m P bu tb fl co fa fb fs fr nn lv a (nup fat j y) w cm cX cY cZ cD su sv tu im rk ba go) Q) : xT M B pc l (zI y :: zI z :: .ref 75 :: st) n (mdH h m P bu tb fl co fa fb fs fr nn lv a fat w cm cX cY cZ cD su sv tu im rk ba go) Q := by
  refine z_iast hf md75 hj hi (by decide) ?_
  rw [zup_nup, mdu75]; exact kk
theorem md_s83 {z aa : Int} {j y : Nat} (hf : xfe M pc = some (.iastore, nx, aa, b, hh)) (hj : z = (j : Int)) (hi : j < 64) (kk : xT M B nx l st n (mdH h m P bu tb fl co fa fb fs fr nn lv a fat w cm cX cY cZ cD su sv tu im (nup rk j y) ba go) Q) : xT M B pc l (zI y :: zI z :: .ref 83 :: st) n (mdH h m P bu tb fl co fa fb fs fr nn lv a fat w cm cX cY cZ cD su sv tu im rk ba go) Q := by
  refine z_iast hf md83 hj hi (by decide) ?_
  rw [zup_nup, mdu83]; exact kk
theorem md_s84 {z aa : Int} {j y : Nat} (hf : xfe M pc = some (.iastore, nx, aa, b, hh)) (hj : z = (j : Int)) (hi : j < 4) (kk : xT M B nx l st n (mdH h m P bu tb fl co fa fb fs fr nn lv a fat w cm cX cY cZ cD su sv tu im rk (nup ba j y) go) Q) : xT M B pc l (zI y :: zI z :: .ref 84 :: st) n (mdH h m P bu tb fl co fa fb fs fr nn lv a fat w cm cX cY cZ cD su sv tu im rk ba go) Q := by
  refine z_iast hf md84 hj hi (by decide) ?_
  rw [zup_nup, mdu84]; exact kk
theorem md_s74 {z aa y : Int} {j : Nat} (hf : xfe M pc = some (.iastore, nx, aa, b, hh)) (hj : z = (j : Int)) (hi : j < 24) (kk : xT M B nx l st n (mdH h m P bu tb fl co fa fb fs fr nn (zup lv j y) a fat w cm cX cY cZ cD su sv tu im rk ba go) Q) : xT M B pc l (zI y :: zI z :: .ref 74 :: st) n (mdH h m P bu tb fl co fa fb fs fr nn lv a fat w cm cX cY cZ cD su sv tu im rk ba go) Q := by
  refine z_iast hf md74 hj hi (by decide) ?_
  rw [mdu74]; exact kk
theorem md_s82 {z aa y : Int} {j : Nat} (hf : xfe M pc = some (.iastore, nx, aa, b, hh)) (hj : z = (j : Int)) (hi : j < 896) (kk : xT M B nx l st n (mdH h m P bu tb fl co fa fb fs fr nn lv a fat w cm cX cY cZ cD su sv tu (zup im j y) rk ba go) Q) : xT M B pc l (zI y :: zI z :: .ref 82 :: st) n (mdH h m P bu tb fl co fa fb fs fr nn lv a fat w cm cX cY cZ cD su sv tu im rk ba go) Q := by
  refine z_iast hf md82 hj hi (by decide) ?_
  rw [mdu82]; exact kk
theorem md_s85 {z aa y : Int} {j : Nat} (hf : xfe M pc = some (.iastore, nx, aa, b, hh)) (hj : z = (j : Int)) (hi : j < 4) (kk : xT M B nx l st n (mdH h m P bu tb fl co fa fb fs fr nn lv a fat w cm cX cY cZ cD su sv tu im rk ba (zup go j y)) Q) : xT M B pc l (zI y :: zI z :: .ref 85 :: st) n (mdH h m P bu tb fl co fa fb fs fr nn lv a fat w cm cX cY cZ cD su sv tu im rk ba go) Q := by
  refine z_iast hf md85 hj hi (by decide) ?_
  rw [mdu85]; exact kk
theorem md_s76 {z aa y : Int} {j : Nat} (hf : xfe M pc = some (.lastore, nx, aa, b, hh)) (hj : z = (j : Int)) (hi : j < 64) (kk : xT M B nx l st n (mdH h m P bu tb fl co fa fb fs fr nn lv a fat w cm (zup cX j y) cY cZ cD su sv tu im rk ba go) Q) : xT M B pc l (zJ y :: zI z :: .ref 76 :: st) n (mdH h m P bu tb fl co fa fb fs fr nn lv a fat w cm cX cY cZ cD su sv tu im rk ba go) Q := by
  refine z_last hf md76 hj hi (by decide) ?_
  rw [mdu76]; exact kk
theorem md_s77 {z aa y : Int} {j : Nat} (hf : xfe M pc = some (.lastore, nx, aa, b, hh)) (hj : z = (j : Int)) (hi : j < 64) (kk : xT M B nx l st n (mdH h m P bu tb fl co fa fb fs fr nn lv a fat w cm cX (zup cY j y) cZ cD su sv tu im rk ba go) Q) : xT M B pc l (zJ y :: zI z :: .ref 77 :: st) n (mdH h m P bu tb fl co fa fb fs fr nn lv a fat w cm cX cY cZ cD su sv tu im rk ba go) Q := by
  refine z_last hf md77 hj hi (by decide) ?_
  rw [mdu77]; exact kk
theorem md_s78 {z aa y : Int} {j : Nat} (hf : xfe M pc = some (.lastore, nx, aa, b, hh)) (hj : z = (j : Int)) (hi : j < 64) (kk : xT M B nx l st n (mdH h m P bu tb fl co fa fb fs fr nn lv a fat w cm cX cY (zup cZ j y) cD su sv tu im rk ba go) Q) : xT M B pc l (zJ y :: zI z :: .ref 78 :: st) n (mdH h m P bu tb fl co fa fb fs fr nn lv a fat w cm cX cY cZ cD su sv tu im rk ba go) Q := by
  refine z_last hf md78 hj hi (by decide) ?_
  rw [mdu78]; exact kk
theorem md_s79 {z aa y : Int} {j : Nat} (hf : xfe M pc = some (.lastore, nx, aa, b, hh)) (hj : z = (j : Int)) (hi : j < 64) (kk : xT M B nx l st n (mdH h m P bu tb fl co fa fb fs fr nn lv a fat w cm cX cY cZ (zup cD j y) su sv tu im rk ba go) Q) : xT M B pc l (zJ y :: zI z :: .ref 79 :: st) n (mdH h m P bu tb fl co fa fb fs fr nn lv a fat w cm cX cY cZ cD su sv tu im rk ba go) Q := by
  refine z_last hf md79 hj hi (by decide) ?_
  rw [mdu79]; exact kk
theorem md_s80 {z aa y : Int} {j : Nat} (hf : xfe M pc = some (.lastore, nx, aa, b, hh)) (hj : z = (j : Int)) (hi : j < 14) (kk : xT M B nx l st n (mdH h m P bu tb fl co fa fb fs fr nn lv a fat w cm cX cY cZ cD (zup su j y) sv tu im rk ba go) Q) : xT M B pc l (zJ y :: zI z :: .ref 80 :: st) n (mdH h m P bu tb fl co fa fb fs fr nn lv a fat w cm cX cY cZ cD su sv tu im rk ba go) Q := by
  refine z_last hf md80 hj hi (by decide) ?_
  rw [mdu80]; exact kk
theorem md_s81 {z aa y : Int} {j : Nat} (hf : xfe M pc = some (.lastore, nx, aa, b, hh)) (hj : z = (j : Int)) (hi : j < 14) (kk : xT M B nx l st n (mdH h m P bu tb fl co fa fb fs fr nn lv a fat w cm cX cY cZ cD su (zup sv j y) tu im rk ba go) Q) : xT M B pc l (zJ y :: zI z :: .ref 81 :: st) n (mdH h m P bu tb fl co fa fb fs fr nn lv a fat w cm cX cY cZ cD su sv tu im rk ba go) Q := by
  refine z_last hf md81 hj hi (by decide) ?_
  rw [mdu81]; exact kk
theorem md_s71 {z aa y : Int} {j : Nat} (hf : xfe M pc = some (.iastore, nx, aa, b, hh)) (hj : z = (j : Int)) (hi : j < 24) (kk : xT M B nx l st n (mdH h m P bu tb fl co fa fb fs fr (vup nn j (y, (nn j).2)) lv a fat w cm cX cY cZ cD su sv tu im rk ba go) Q) : xT M B pc l (zI y :: zI z :: .ref 71 :: st) n (mdH h m P bu tb fl co fa fb fs fr nn lv a fat w cm cX cY cZ cD su sv tu im rk ba go) Q := by
  refine z_iast hf md71 hj hi (by decide) ?_
  rw [nn_1]
  have e : xup (mdH h m P bu tb fl co fa fb fs fr nn lv a fat w cm cX cY cZ cD su sv tu im rk ba go) 71 (zA 24 fun k => (vup nn j (y, (nn j).2) k).1) = (mdH h m P bu tb fl co fa fb fs fr (vup nn j (y, (nn j).2)) lv a fat w cm cX cY cZ cD su sv tu im rk ba go) := by
    funext k
    by_cases hk : k = 71
    · subst hk; rfl
    · rw [xup_n hk]; unfold mdH; simp only [if_neg hk]; rw [← vup_k1 nn j y, ← vup_k2 nn j y]
  rw [e]; exact kk
theorem md_s72 {z aa y : Int} {j : Nat} (hf : xfe M pc = some (.iastore, nx, aa, b, hh)) (hj : z = (j : Int)) (hi : j < 24) (kk : xT M B nx l st n (mdH h m P bu tb fl co fa fb fs fr (vup nn j ((nn j).1, y, (nn j).2.2)) lv a fat w cm cX cY cZ cD su sv tu im rk ba go) Q) : xT M B pc l (zI y :: zI z :: .ref 72 :: st) n (mdH h m P bu tb fl co fa fb fs fr nn lv a fat w cm cX cY cZ cD su sv tu im rk ba go) Q := by
  refine z_iast hf md72 hj hi (by decide) ?_
  rw [nn_2]
  have e : xup (mdH h m P bu tb fl co fa fb fs fr nn lv a fat w cm cX cY cZ cD su sv tu im rk ba go) 72 (zA 24 fun k => (vup nn j ((nn j).1, y, (nn j).2.2) k).2.1) = (mdH h m P bu tb fl co fa fb fs fr (vup nn j ((nn j).1, y, (nn j).2.2)) lv a fat w cm cX cY cZ cD su sv tu im rk ba go) := by
    funext k
    by_cases hk : k = 72
    · subst hk; rfl
    · rw [xup_n hk]; unfold mdH; simp only [if_neg hk]; rw [← vup_k3 nn j y, ← vup_k4 nn j y]
  rw [e]; exact kk
theorem md_s73 {z aa y : Int} {j : Nat} (hf : xfe M pc = some (.iastore, nx, aa, b, hh)) (hj : z = (j : Int)) (hi : j < 24) (kk : xT M B nx l st n (mdH h m P bu tb fl co fa fb fs fr (vup nn j ((nn j).1, (nn j).2.1, y)) lv a fat w cm cX cY cZ cD su sv tu im rk ba go) Q) : xT M B pc l (zI y :: zI z :: .ref 73 :: st) n (mdH h m P bu tb fl co fa fb fs fr nn lv a fat w cm cX cY cZ cD su sv tu im rk ba go) Q := by
  refine z_iast hf md73 hj hi (by decide) ?_
  rw [nn_3]
  have e : xup (mdH h m P bu tb fl co fa fb fs fr nn lv a fat w cm cX cY cZ cD su sv tu im rk ba go) 73 (zA 24 fun k => (vup nn j ((nn j).1, (nn j).2.1, y) k).2.2) = (mdH h m P bu tb fl co fa fb fs fr (vup nn j ((nn j).1, (nn j).2.1, y)) lv a fat w cm cX cY cZ cD su sv tu im rk ba go) := by
    funext k
    by_cases hk : k = 73
    · subst hk; rfl
    · rw [xup_n hk]; unfold mdH; simp only [if_neg hk]; rw [← vup_k5 nn j y, ← vup_k6 nn j y]
  rw [e]; exact kk
theorem md_s65 {z aa y : Int} {j : Nat} (hf : xfe M pc = some (.iastore, nx, aa, b, hh)) (hj : z = (j : Int)) (hi : j < 14) (kk : xT M B nx l st n (mdH h m (vup P j (y, (P j).2)) bu tb fl co fa fb fs fr nn lv a fat w cm cX cY cZ cD su sv tu im rk ba go) Q) : xT M B pc l (zI y :: zI z :: .ref 65 :: st) n (mdH h m P bu tb fl co fa fb fs fr nn lv a fat w cm cX cY cZ cD su sv tu im rk ba go) Q := by
  refine z_iast hf md65 hj hi (by decide) ?_
  rw [nn_1]
  have e : xup (mdH h m P bu tb fl co fa fb fs fr nn lv a fat w cm cX cY cZ cD su sv tu im rk ba go) 65 (zA 14 fun k => (vup P j (y, (P j).2) k).1) = (mdH h m (vup P j (y, (P j).2)) bu tb fl co fa fb fs fr nn lv a fat w cm cX cY cZ cD su sv tu im rk ba go) := by
    funext k
    by_cases hk : k = 65
    · subst hk; rfl
    · rw [xup_n hk]; unfold mdH; simp only [if_neg hk]; rw [← vup_k1 P j y, ← vup_k2 P j y]
  rw [e]; exact kk
theorem md_s66 {z aa y : Int} {j : Nat} (hf : xfe M pc = some (.iastore, nx, aa, b, hh)) (hj : z = (j : Int)) (hi : j < 14) (kk : xT M B nx l st n (mdH h m (vup P j ((P j).1, y, (P j).2.2)) bu tb fl co fa fb fs fr nn lv a fat w cm cX cY cZ cD su sv tu im rk ba go) Q) : xT M B pc l (zI y :: zI z :: .ref 66 :: st) n (mdH h m P bu tb fl co fa fb fs fr nn lv a fat w cm cX cY cZ cD su sv tu im rk ba go) Q := by
  refine z_iast hf md66 hj hi (by decide) ?_
  rw [nn_2]
  have e : xup (mdH h m P bu tb fl co fa fb fs fr nn lv a fat w cm cX cY cZ cD su sv tu im rk ba go) 66 (zA 14 fun k => (vup P j ((P j).1, y, (P j).2.2) k).2.1) = (mdH h m (vup P j ((P j).1, y, (P j).2.2)) bu tb fl co fa fb fs fr nn lv a fat w cm cX cY cZ cD su sv tu im rk ba go) := by
    funext k
    by_cases hk : k = 66
    · subst hk; rfl
    · rw [xup_n hk]; unfold mdH; simp only [if_neg hk]; rw [← vup_k3 P j y, ← vup_k4 P j y]
  rw [e]; exact kk
theorem md_s67 {z aa y : Int} {j : Nat} (hf : xfe M pc = some (.iastore, nx, aa, b, hh)) (hj : z = (j : Int)) (hi : j < 14) (kk : xT M B nx l st n (mdH h m (vup P j ((P j).1, (P j).2.1, y)) bu tb fl co fa fb fs fr nn lv a fat w cm cX cY cZ cD su sv tu im rk ba go) Q) : xT M B pc l (zI y :: zI z :: .ref 67 :: st) n (mdH h m P bu tb fl co fa fb fs fr nn lv a fat w cm cX cY cZ cD su sv tu im rk ba go) Q := by
  refine z_iast hf md67 hj hi (by decide) ?_
  rw [nn_3]
  have e : xup (mdH h m P bu tb fl co fa fb fs fr nn lv a fat w cm cX cY cZ cD su sv tu im rk ba go) 67 (zA 14 fun k => (vup P j ((P j).1, (P j).2.1, y) k).2.2) = (mdH h m (vup P j ((P j).1, (P j).2.1, y)) bu tb fl co fa fb fs fr nn lv a fat w cm cX cY cZ cD su sv tu im rk ba go) := by
    funext k
    by_cases hk : k = 67
    · subst hk; rfl
    · rw [xup_n hk]; unfold mdH; simp only [if_neg hk]; rw [← vup_k5 P j y, ← vup_k6 P j y]
  rw [e]; exact kk
end MD1
