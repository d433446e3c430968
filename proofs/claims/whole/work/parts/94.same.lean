/-! Each call: class and reference answer alike, and stay side by side -/
set_option maxRecDepth 10000 in
theorem sm_flat {h : xHp} {N : Nat} (R0 : Rel h) : xSameI xmX5_flat xmX6_flat Rel N [] h := by
  obtain ⟨m, P, c, s, cm, cX, cY, cZ, cD, R⟩ := R0
  obtain ⟨hm, hb, hb'⟩ := R.p
  have hD := R.2.1
  have HS := R.1
  have HM := R.2.2.2.1
  unfold xSameI
  exact same_pure R (c_flat HS) (m_flat HM)
set_option maxRecDepth 10000 in
theorem sm_corners {h : xHp} {N : Nat} (R0 : Rel h) : xSameI xmX5_corners xmX6_corners Rel N [] h := by
  obtain ⟨m, P, c, s, cm, cX, cY, cZ, cD, R⟩ := R0
  obtain ⟨hm, hb, hb'⟩ := R.p
  have hD := R.2.1
  have HS := R.1
  have HM := R.2.2.2.1
  unfold xSameI
  exact same_pure R (c_corners HS) (m_corners HM)
set_option maxRecDepth 10000 in
theorem sm_edges {h : xHp} {N : Nat} (R0 : Rel h) : xSameI xmX5_edges xmX6_edges Rel N [] h := by
  obtain ⟨m, P, c, s, cm, cX, cY, cZ, cD, R⟩ := R0
  obtain ⟨hm, hb, hb'⟩ := R.p
  have hD := R.2.1
  have HS := R.1
  have HM := R.2.2.2.1
  unfold xSameI
  exact same_pure R (c_edges HS) (m_edges HM)
set_option maxRecDepth 10000 in
theorem sm_faces {h : xHp} {N : Nat} (R0 : Rel h) : xSameI xmX5_faces xmX6_faces Rel N [] h := by
  obtain ⟨m, P, c, s, cm, cX, cY, cZ, cD, R⟩ := R0
  obtain ⟨hm, hb, hb'⟩ := R.p
  have hD := R.2.1
  have HS := R.1
  have HM := R.2.2.2.1
  unfold xSameI
  exact same_pure R (c_faces HS) (m_faces HM)
set_option maxRecDepth 10000 in
theorem sm_size {h : xHp} {N : Nat} (a1 : Int32) (R0 : Rel h) : xSameI xmX5_size xmX6_size Rel N [.int a1] h := by
  obtain ⟨m, P, c, s, cm, cX, cY, cZ, cD, R⟩ := R0
  rw [int_zI a1]
  have r1 := R3.of a1
  generalize a1.toInt = x1 at *
  obtain ⟨hm, hb, hb'⟩ := R.p
  have hD := R.2.1
  have HS := R.1
  have HM := R.2.2.2.1
  unfold xSameI
  exact same_pure R (c_size HS x1 r1) (m_size HM x1 r1)
set_option maxRecDepth 10000 in
theorem sm_at {h : xHp} {N : Nat} (a1 a2 : Int32) (R0 : Rel h) : xSameI xmX5_at xmX6_at Rel N [.int a1, .int a2] h := by
  obtain ⟨m, P, c, s, cm, cX, cY, cZ, cD, R⟩ := R0
  rw [int_zI a1, int_zI a2]
  have r1 := R3.of a1
  have r2 := R3.of a2
  generalize a1.toInt = x1 at *
  generalize a2.toInt = x2 at *
  obtain ⟨hm, hb, hb'⟩ := R.p
  have hD := R.2.1
  have HS := R.1
  have HM := R.2.2.2.1
  unfold xSameI
  exact same_pure R (c_at HS x1 x2 r1 r2) (m_at HM x1 x2 r1 r2)
set_option maxRecDepth 10000 in
theorem sm_normal {h : xHp} {N : Nat} (a1 a2 : Int32) (R0 : Rel h) : xSameL xmX5_normal xmX6_normal Rel N [.int a1, .int a2] h := by
  obtain ⟨m, P, c, s, cm, cX, cY, cZ, cD, R⟩ := R0
  rw [int_zI a1, int_zI a2]
  have r1 := R3.of a1
  have r2 := R3.of a2
  generalize a1.toInt = x1 at *
  generalize a2.toInt = x2 at *
  obtain ⟨hm, hb, hb'⟩ := R.p
  have hD := R.2.1
  have HS := R.1
  have HM := R.2.2.2.1
  unfold xSameL
  exact same_pure R (c_normal HS x1 x2 r1 r2) (m_normal HM x1 x2 r1 r2)
set_option maxRecDepth 10000 in
theorem sm_volume {h : xHp} {N : Nat} (R0 : Rel h) : xSameL xmX5_volume xmX6_volume Rel N [] h := by
  obtain ⟨m, P, c, s, cm, cX, cY, cZ, cD, R⟩ := R0
  obtain ⟨hm, hb, hb'⟩ := R.p
  have hD := R.2.1
  have HS := R.1
  have HM := R.2.2.2.1
  unfold xSameL
  exact same_pure R (c_volume HS) (m_volume HM)
set_option maxRecDepth 10000 in
theorem sm_where {h : xHp} {N : Nat} (a1 a2 a3 a4 : Int32) (R0 : Rel h) : xSameI xmX5_where xmX6_where Rel N [.int a1, .int a2, .int a3, .int a4] h := by
  obtain ⟨m, P, c, s, cm, cX, cY, cZ, cD, R⟩ := R0
  rw [int_zI a1, int_zI a2, int_zI a3, int_zI a4]
  have r1 := R3.of a1
  have r2 := R3.of a2
  have r3 := R3.of a3
  have r4 := R3.of a4
  generalize a1.toInt = x1 at *
  generalize a2.toInt = x2 at *
  generalize a3.toInt = x3 at *
  generalize a4.toInt = x4 at *
  obtain ⟨hm, hb, hb'⟩ := R.p
  have hD := R.2.1
  have HS := R.1
  have HM := R.2.2.2.1
  unfold xSameI
  exact same_pure R (c_where HS x1 x2 x3 x4 r1 r2 r3 r4) (m_where HM x1 x2 x3 x4 r1 r2 r3 r4)
set_option maxRecDepth 10000 in
theorem sm_middle {h : xHp} {N : Nat} (a1 a2 : Int32) (R0 : Rel h) : xSameL xmX5_middle xmX6_middle Rel N [.int a1, .int a2] h := by
  obtain ⟨m, P, c, s, cm, cX, cY, cZ, cD, R⟩ := R0
  rw [int_zI a1, int_zI a2]
  have r1 := R3.of a1
  have r2 := R3.of a2
  generalize a1.toInt = x1 at *
  generalize a2.toInt = x2 at *
  obtain ⟨hm, hb, hb'⟩ := R.p
  have hD := R.2.1
  have HS := R.1
  have HM := R.2.2.2.1
  unfold xSameL
  exact same_pure R (c_middle HS (fun hF => hSix_pos hm hb' hD hF) x1 x2 r1 r2) (m_middle HM (hu_six hb HS.2.2.1) x1 x2 r1 r2)
set_option maxRecDepth 10000 in
theorem sm_cutAt {h : xHp} {N : Nat} (a1 a2 a3 : Int32) (R0 : Rel h) : xSameL xmX5_cutAt xmX6_cutAt Rel N [.int a1, .int a2, .int a3] h := by
  obtain ⟨m, P, c, s, cm, cX, cY, cZ, cD, R⟩ := R0
  rw [int_zI a1, int_zI a2, int_zI a3]
  have r1 := R3.of a1
  have r2 := R3.of a2
  have r3 := R3.of a3
  generalize a1.toInt = x1 at *
  generalize a2.toInt = x2 at *
  generalize a3.toInt = x3 at *
  obtain ⟨hm, hb, hb'⟩ := R.p
  have hD := R.2.1
  have HS := R.1
  have HM := R.2.2.2.1
  unfold xSameL
  exact same_pure R (c_cutAt HS R.2.2.2.2.2.2 x1 x2 x3 r1 r2 r3) (m_cutAt HM c R.2.2.2.2.1 HS.2.2.2.1.2.2 R.2.2.2.2.2.1 R.2.2.2.2.2.2 x1 x2 x3 r1 r2 r3)
set_option maxRecDepth 10000 in
theorem sm_far {h : xHp} {N : Nat} (a1 a2 a3 a4 : Int32) (R0 : Rel h) : xSameL xmX5_far xmX6_far Rel N [.int a1, .int a2, .int a3, .int a4] h := by
  obtain ⟨m, P, c, s, cm, cX, cY, cZ, cD, R⟩ := R0
  rw [int_zI a1, int_zI a2, int_zI a3, int_zI a4]
  have r1 := R3.of a1
  have r2 := R3.of a2
  have r3 := R3.of a3
  have r4 := R3.of a4
  generalize a1.toInt = x1 at *
  generalize a2.toInt = x2 at *
  generalize a3.toInt = x3 at *
  generalize a4.toInt = x4 at *
  obtain ⟨hm, hb, hb'⟩ := R.p
  have hD := R.2.1
  have HS := R.1
  have HM := R.2.2.2.1
  unfold xSameL
  by_cases q1 : 0 < (blF P m).1 ∧ isDir x1 x2 x3 ∧ x4 = 0
  · have e2 : ¬ (0 < (blF P m).1 ∧ isDir x1 x2 x3 ∧ x4 = 1) := fun q => by have := q.2.2; have := q1.2.2; omega
    have e0 : 0 < (blF P m).1 ∧ isDir x1 x2 x3 ∧ (x4 = 0 ∨ x4 = 1) := ⟨q1.1, q1.2.1, Or.inl q1.2.2⟩
    exact same_pure R (c_far HS x1 x2 x3 x4 r1 r2 r3 r4 (zJ _) (fun _ => rfl) (fun q => absurd q e2) (fun q => absurd e0 q)) (m_far HM x1 x2 x3 x4 r1 r2 r3 r4 (zJ _) (fun _ => rfl) (fun q => absurd q e2) (fun q => absurd e0 q))
  by_cases q2 : 0 < (blF P m).1 ∧ isDir x1 x2 x3 ∧ x4 = 1
  · have e0 : 0 < (blF P m).1 ∧ isDir x1 x2 x3 ∧ (x4 = 0 ∨ x4 = 1) := ⟨q2.1, q2.2.1, Or.inr q2.2.2⟩
    exact same_pure R (c_far HS x1 x2 x3 x4 r1 r2 r3 r4 (zJ _) (fun q => absurd q q1) (fun _ => rfl) (fun q => absurd e0 q)) (m_far HM x1 x2 x3 x4 r1 r2 r3 r4 (zJ _) (fun q => absurd q q1) (fun _ => rfl) (fun q => absurd e0 q))
  exact same_pure R (c_far HS x1 x2 x3 x4 r1 r2 r3 r4 (zJ _) (fun q => absurd q q1) (fun q => absurd q q2) (fun _ => rfl)) (m_far HM x1 x2 x3 x4 r1 r2 r3 r4 (zJ _) (fun q => absurd q q1) (fun q => absurd q q2) (fun _ => rfl))
set_option maxRecDepth 10000 in
theorem sm_way {h : xHp} {N : Nat} (a1 a2 : Int32) (R0 : Rel h) : xSameI xmX5_way xmX6_way Rel N [.int a1, .int a2] h := by
  obtain ⟨m, P, c, s, cm, cX, cY, cZ, cD, R⟩ := R0
  rw [int_zI a1, int_zI a2]
  have r1 := R3.of a1
  have r2 := R3.of a2
  generalize a1.toInt = x1 at *
  generalize a2.toInt = x2 at *
  obtain ⟨hm, hb, hb'⟩ := R.p
  have hD := R.2.1
  have HS := R.1
  have HM := R.2.2.2.1
  unfold xSameI
  by_cases hF : 0 < (blF P m).1
  rotate_left
  · exact same_pure R (c_way HS x1 x2 r1 r2 (zI _) (fun _ => rfl) (fun q => absurd q hF) (fun q => absurd q hF)) (m_way HM x1 x2 r1 r2 (zI _) (fun _ => rfl) (fun q => absurd q hF) (fun q => absurd q hF))
  by_cases q1 : isCo (hCB P m) x1 ∧ isCo (hCB P m) x2
  · exact same_pure R (c_way HS x1 x2 r1 r2 (zI _) (fun q => absurd hF q) (fun _ q => absurd q1 q) (fun _ _ => rfl)) (m_way HM x1 x2 r1 r2 (zI _) (fun q => absurd hF q) (fun _ q => absurd q1 q) (fun _ _ => rfl))
  · exact same_pure R (c_way HS x1 x2 r1 r2 (zI _) (fun q => absurd hF q) (fun _ _ => rfl) (fun _ q => absurd q q1)) (m_way HM x1 x2 r1 r2 (zI _) (fun q => absurd hF q) (fun _ _ => rfl) (fun _ q => absurd q q1))
set_option maxRecDepth 10000 in
theorem sm_shadow {h : xHp} {N : Nat} (a1 a2 a3 : Int32) (R0 : Rel h) : xSameI xmX5_shadow xmX6_shadow Rel N [.int a1, .int a2, .int a3] h := by
  obtain ⟨m, P, c, s, cm, cX, cY, cZ, cD, R⟩ := R0
  rw [int_zI a1, int_zI a2, int_zI a3]
  have r1 := R3.of a1
  have r2 := R3.of a2
  have r3 := R3.of a3
  generalize a1.toInt = x1 at *
  generalize a2.toInt = x2 at *
  generalize a3.toInt = x3 at *
  obtain ⟨hm, hb, hb'⟩ := R.p
  have hD := R.2.1
  have HS := R.1
  have HM := R.2.2.2.1
  unfold xSameI
  refine same_mPo (c_shadow HS (fun hF => cb_pos R hF) x1 x2 x3 r1 r2 r3) ?_
  rintro r n' h' ⟨rfl, ⟨hF, rfl, rfl⟩ | ⟨hF, hd, rfl, rfl⟩ | ⟨hF, hd, rfl, S', e⟩⟩
  · refine ⟨rfl, _, m, P, c, s, cm, cX, cY, cZ, cD, R, rfl, (m_shadow HM x1 x2 x3 r1 r2 r3).mono ?_⟩
    rintro r2 n2 h2 ⟨rfl, e2, M2, ⟨_, rfl⟩ | ⟨q, _⟩ | ⟨q, _⟩⟩
    · exact ⟨rfl, e2, M2, rfl⟩
    · exact absurd q hF
    · exact absurd q hF
  · refine ⟨rfl, _, m, P, c, s, cm, cX, cY, cZ, cD, R, rfl, (m_shadow HM x1 x2 x3 r1 r2 r3).mono ?_⟩
    rintro r2 n2 h2 ⟨rfl, e2, M2, ⟨q, _⟩ | ⟨_, _, rfl⟩ | ⟨_, q, _⟩⟩
    · exact absurd hF q
    · exact ⟨rfl, e2, M2, rfl⟩
    · exact absurd q hd
  · have R' := R.hi e S' R.2.2.1
    refine ⟨rfl, _, m, P, c, s, cm, cX, cY, cZ, cD, R', rfl, (m_shadow R'.2.2.2.1 x1 x2 x3 r1 r2 r3).mono ?_⟩
    rintro r2 n2 h2 ⟨rfl, e2, M2, ⟨q, _⟩ | ⟨_, q, _⟩ | ⟨_, _, rfl⟩⟩
    · exact absurd hF q
    · exact absurd hd q
    · exact ⟨rfl, e2, M2, rfl⟩
set_option maxRecDepth 10000 in
theorem sm_symmetries {h : xHp} {N : Nat} (R0 : Rel h) : xSameI xmX5_symmetries xmX6_symmetries Rel N [] h := by
  obtain ⟨m, P, c, s, cm, cX, cY, cZ, cD, R⟩ := R0
  obtain ⟨hm, hb, hb'⟩ := R.p
  have hD := R.2.1
  have HS := R.1
  have HM := R.2.2.2.1
  unfold xSameI
  refine same_mPo (c_symmetries HS) ?_
  rintro r n' h' ⟨rfl, e, ⟨hF, rfl, rfl⟩ | ⟨hF, rfl, S'⟩⟩
  · have := m_symmetries (n := n') HM (N := (lsS P m s).1) (imc := imF (lsS P m s)) (fun q => absurd q hF)
    rw [if_neg hF] at this
    exact ⟨rfl, _, m, P, c, s, cm, cX, cY, cZ, cD, R, rfl, this⟩
  · have R' := R.hi e S' (Or.inr (R.srt hF))
    have := m_symmetries (n := n') R'.2.2.2.1 (N := (lsS P m s).1) (imc := imF (lsS P m s)) (fun q => R.srt q)
    rw [if_pos hF] at this
    exact ⟨rfl, _, m, P, c, _, cm, cX, cY, cZ, cD, R', rfl, this⟩
set_option maxRecDepth 10000 in
theorem sm_regular {h : xHp} {N : Nat} (R0 : Rel h) : xSameI xmX5_regular xmX6_regular Rel N [] h := by
  obtain ⟨m, P, c, s, cm, cX, cY, cZ, cD, R⟩ := R0
  obtain ⟨hm, hb, hb'⟩ := R.p
  have hD := R.2.1
  have HS := R.1
  have HM := R.2.2.2.1
  unfold xSameI
  refine same_mPo (c_regular HS) ?_
  rintro r n' h' ⟨rfl, e, ⟨hF, rfl, rfl⟩ | ⟨hF, rfl, S'⟩⟩
  · have := m_regular (n := n') HM (N := (lsS P m s).1) (imc := imF (lsS P m s)) (fun q => absurd q hF)
    rw [if_neg hF] at this
    exact ⟨rfl, _, m, P, c, s, cm, cX, cY, cZ, cD, R, rfl, this⟩
  · have R' := R.hi e S' (Or.inr (R.srt hF))
    have := m_regular (n := n') R'.2.2.2.1 (N := (lsS P m s).1) (imc := imF (lsS P m s)) (fun q => R.srt q)
    rw [if_pos hF] at this
    exact ⟨rfl, _, m, P, c, _, cm, cX, cY, cZ, cD, R', rfl, this⟩
set_option maxRecDepth 10000 in
theorem sm_symmetry {h : xHp} {N : Nat} (a1 a2 : Int32) (R0 : Rel h) : xSameI xmX5_symmetry xmX6_symmetry Rel N [.int a1, .int a2] h := by
  obtain ⟨m, P, c, s, cm, cX, cY, cZ, cD, R⟩ := R0
  rw [int_zI a1, int_zI a2]
  have r1 := R3.of a1
  have r2 := R3.of a2
  generalize a1.toInt = x1 at *
  generalize a2.toInt = x2 at *
  obtain ⟨hm, hb, hb'⟩ := R.p
  have hD := R.2.1
  have HS := R.1
  have HM := R.2.2.2.1
  unfold xSameI
  refine same_mPo (c_symmetry HS x1 x2 r1 r2) ?_
  rintro r n' h' ⟨rfl, e, ⟨hF, rfl, rfl⟩ | ⟨hF, x0, rfl, rfl⟩ | ⟨hF, x0, S', hr⟩⟩
  · exact ⟨rfl, _, m, P, c, s, cm, cX, cY, cZ, cD, R, rfl, m_symmetry HM (N := (lsS P m s).1) (imc := imF (lsS P m s)) (fun q => R.srt q) x1 x2 r1 r2 (zI _) (fun _ => rfl) (fun q => absurd q hF) (fun q => absurd q hF)⟩
  · exact ⟨rfl, _, m, P, c, s, cm, cX, cY, cZ, cD, R, rfl, m_symmetry HM (N := (lsS P m s).1) (imc := imF (lsS P m s)) (fun q => R.srt q) x1 x2 r1 r2 (zI _) (fun q => absurd hF q) (fun _ _ => rfl) (fun _ q => absurd q.1.1 (by omega))⟩
  · have R' := R.hi e S' (Or.inr (R.srt hF))
    rcases hr with ⟨x1l, hy, rfl⟩ | ⟨hn, rfl⟩
    · exact ⟨rfl, _, m, P, c, _, cm, cX, cY, cZ, cD, R', rfl, m_symmetry R'.2.2.2.1 (N := (lsS P m s).1) (imc := imF (lsS P m s)) (fun q => R.srt q) x1 x2 r1 r2 (zI _) (fun q => absurd hF q) (fun _ q => absurd ⟨⟨x0, x1l⟩, hy⟩ q) (fun _ _ => rfl)⟩
    · exact ⟨rfl, _, m, P, c, _, cm, cX, cY, cZ, cD, R', rfl, m_symmetry R'.2.2.2.1 (N := (lsS P m s).1) (imc := imF (lsS P m s)) (fun q => R.srt q) x1 x2 r1 r2 (zI _) (fun q => absurd hF q) (fun _ _ => rfl) (fun _ q => absurd ⟨q.1.2, q.2⟩ hn)⟩
set_option maxRecDepth 10000 in
theorem sm_order {h : xHp} {N : Nat} (a1 : Int32) (R0 : Rel h) : xSameI xmX5_order xmX6_order Rel N [.int a1] h := by
  obtain ⟨m, P, c, s, cm, cX, cY, cZ, cD, R⟩ := R0
  rw [int_zI a1]
  have r1 := R3.of a1
  generalize a1.toInt = x1 at *
  obtain ⟨hm, hb, hb'⟩ := R.p
  have hD := R.2.1
  have HS := R.1
  have HM := R.2.2.2.1
  unfold xSameI
  refine same_mPo (c_order HS x1 r1) ?_
  rintro r n' h' ⟨rfl, e, ⟨hF, rfl, rfl⟩ | ⟨hF, x0, rfl, rfl⟩ | ⟨hF, x0, S', hr⟩⟩
  · exact ⟨rfl, _, m, P, c, s, cm, cX, cY, cZ, cD, R, rfl, m_order HM (N := (lsS P m s).1) (imc := imF (lsS P m s)) (fun q => R.srt q) x1 r1 (zI _) (fun _ => rfl) (fun q => absurd q hF) (fun q => absurd q hF)⟩
  · exact ⟨rfl, _, m, P, c, s, cm, cX, cY, cZ, cD, R, rfl, m_order HM (N := (lsS P m s).1) (imc := imF (lsS P m s)) (fun q => R.srt q) x1 r1 (zI _) (fun q => absurd hF q) (fun _ _ => rfl) (fun _ q => absurd q.1 (by omega))⟩
  · have R' := R.hi e S' (Or.inr (R.srt hF))
    rcases hr with ⟨x1l, rfl⟩ | ⟨hn, rfl⟩
    · exact ⟨rfl, _, m, P, c, _, cm, cX, cY, cZ, cD, R', rfl, m_order R'.2.2.2.1 (N := (lsS P m s).1) (imc := imF (lsS P m s)) (fun q => R.srt q) x1 r1 (zI _) (fun q => absurd hF q) (fun _ q => absurd ⟨x0, x1l⟩ q) (fun _ _ => rfl)⟩
    · exact ⟨rfl, _, m, P, c, _, cm, cX, cY, cZ, cD, R', rfl, m_order R'.2.2.2.1 (N := (lsS P m s).1) (imc := imF (lsS P m s)) (fun q => R.srt q) x1 r1 (zI _) (fun q => absurd hF q) (fun _ _ => rfl) (fun _ q => absurd q.2 hn)⟩
set_option maxRecDepth 10000 in
theorem sm_turn {h : xHp} {N : Nat} (a1 : Int32) (R0 : Rel h) : xSameI xmX5_turn xmX6_turn Rel N [.int a1] h := by
  obtain ⟨m, P, c, s, cm, cX, cY, cZ, cD, R⟩ := R0
  rw [int_zI a1]
  have r1 := R3.of a1
  generalize a1.toInt = x1 at *
  obtain ⟨hm, hb, hb'⟩ := R.p
  have hD := R.2.1
  have HS := R.1
  have HM := R.2.2.2.1
  unfold xSameI
  refine same_mPo (c_turn HS (fun q => (turn4 R q).1) (fun q => (turn4 R q).2.1) x1 r1) ?_
  rintro r n' h' ⟨rfl, e, ⟨hF, rfl, rfl⟩ | ⟨hF, x0, rfl, rfl⟩ | ⟨hF, x0, S', hr⟩⟩
  · exact ⟨rfl, _, m, P, c, s, cm, cX, cY, cZ, cD, R, rfl, m_turn HM (N := (lsS P m s).1) (imc := imF (lsS P m s)) (fun q => R.srt q) x1 r1 (fRow P m 0 0) (fRow P m 0 1) (fRow P m 0 2) (tz (bdf (hCB P m) ((blF P m).2 0).2.2.1)) (fun q => (turn4 R q).2.2) (zI _) (fun _ => rfl) (fun q => absurd q hF) (fun q => absurd q hF)⟩
  · exact ⟨rfl, _, m, P, c, s, cm, cX, cY, cZ, cD, R, rfl, m_turn HM (N := (lsS P m s).1) (imc := imF (lsS P m s)) (fun q => R.srt q) x1 r1 (fRow P m 0 0) (fRow P m 0 1) (fRow P m 0 2) (tz (bdf (hCB P m) ((blF P m).2 0).2.2.1)) (fun q => (turn4 R q).2.2) (zI _) (fun q => absurd hF q) (fun _ _ => rfl) (fun _ q => absurd q.1 (by omega))⟩
  · have R' := R.hi e S' (Or.inr (R.srt hF))
    rcases hr with ⟨x1l, rfl⟩ | ⟨hn, rfl⟩
    · exact ⟨rfl, _, m, P, c, _, cm, cX, cY, cZ, cD, R', rfl, m_turn R'.2.2.2.1 (N := (lsS P m s).1) (imc := imF (lsS P m s)) (fun q => R.srt q) x1 r1 (fRow P m 0 0) (fRow P m 0 1) (fRow P m 0 2) (tz (bdf (hCB P m) ((blF P m).2 0).2.2.1)) (fun q => (turn4 R q).2.2) (zI _) (fun q => absurd hF q) (fun _ q => absurd ⟨x0, x1l⟩ q) (fun _ _ => rfl)⟩
    · exact ⟨rfl, _, m, P, c, _, cm, cX, cY, cZ, cD, R', rfl, m_turn R'.2.2.2.1 (N := (lsS P m s).1) (imc := imF (lsS P m s)) (fun q => R.srt q) x1 r1 (fRow P m 0 0) (fRow P m 0 1) (fRow P m 0 2) (tz (bdf (hCB P m) ((blF P m).2 0).2.2.1)) (fun q => (turn4 R q).2.2) (zI _) (fun q => absurd hF q) (fun _ _ => rfl) (fun _ q => absurd q.2 hn)⟩
set_option maxRecDepth 10000 in
theorem sm_clear {h : xHp} {N : Nat} (R0 : Rel h) : xSameI xmX5_clear xmX6_clear Rel N [] h := by
  obtain ⟨m, P, c, s, cm, cX, cY, cZ, cD, R⟩ := R0
  obtain ⟨hm, hb, hb'⟩ := R.p
  have hD := R.2.1
  have HS := R.1
  have HM := R.2.2.2.1
  unfold xSameI
  refine (c_clear HS).mono ?_
  rintro r n' h' ⟨rfl, rfl, S', e⟩
  have M' := mHp_hi HM e
  refine ⟨rfl, M'.at, _, rfl, (m_clear M').mono ?_⟩
  rintro r2 n2 h2 ⟨rfl, e2, M2, rfl⟩
  exact ⟨rfl, rfl, 0, P, (0, c.2), (0, s.2), -1, cX, cY, cZ, cD, xSt_lo S' e2, fun j k hj => absurd hj (Nat.not_lt_zero _), Or.inl rfl, M2, Or.inl ⟨rfl, rfl⟩, fun i hi => absurd hi (Nat.not_lt_zero _), fun i hi => absurd hi (Nat.not_lt_zero _)⟩
set_option maxRecDepth 10000 in
theorem sm_point {h : xHp} {N : Nat} (a1 a2 a3 : Int32) (R0 : Rel h) : xSameI xmX5_point xmX6_point Rel N [.int a1, .int a2, .int a3] h := by
  obtain ⟨m, P, c, s, cm, cX, cY, cZ, cD, R⟩ := R0
  rw [int_zI a1, int_zI a2, int_zI a3]
  have r1 := R3.of a1
  have r2 := R3.of a2
  have r3 := R3.of a3
  generalize a1.toInt = x1 at *
  generalize a2.toInt = x2 at *
  generalize a3.toInt = x3 at *
  obtain ⟨hm, hb, hb'⟩ := R.p
  have hD := R.2.1
  have HS := R.1
  have HM := R.2.2.2.1
  unfold xSameI
  refine (c_point HS x1 x2 x3 r1 r2 r3).mono ?_
  rintro r n' h' ⟨rfl, hc⟩
  rcases hc with ⟨w1, rfl, rfl⟩ | ⟨w1, w2, rfl, rfl⟩ | ⟨w1, w2, w3, rfl, rfl⟩ | ⟨w1, w2, w3, rfl, S', e⟩
  · refine ⟨rfl, HM.at, _, rfl, (m_point HM x1 x2 x3 r1 r2 r3).mono ?_⟩
    rintro r2 n2 h2 ⟨rfl, e2, ⟨v1, rfl, M2⟩ | ⟨v1, v2, rfl, M2⟩ | ⟨v1, v2, v3, rfl, M2⟩ | ⟨v1, v2, v3, rfl, M2⟩⟩
    · exact ⟨rfl, rfl, R.lo e2 M2⟩
    · exact absurd v1 w1
    · exact absurd v1 w1
    · exact absurd v1 w1
  · refine ⟨rfl, HM.at, _, rfl, (m_point HM x1 x2 x3 r1 r2 r3).mono ?_⟩
    rintro r2 n2 h2 ⟨rfl, e2, ⟨v1, rfl, M2⟩ | ⟨v1, v2, rfl, M2⟩ | ⟨v1, v2, v3, rfl, M2⟩ | ⟨v1, v2, v3, rfl, M2⟩⟩
    · exact absurd w1 v1
    · exact ⟨rfl, rfl, R.lo e2 M2⟩
    · exact absurd w2 v2
    · exact absurd w2 v2
  · refine ⟨rfl, HM.at, _, rfl, (m_point HM x1 x2 x3 r1 r2 r3).mono ?_⟩
    rintro r2 n2 h2 ⟨rfl, e2, ⟨v1, rfl, M2⟩ | ⟨v1, v2, rfl, M2⟩ | ⟨v1, v2, v3, rfl, M2⟩ | ⟨v1, v2, v3, rfl, M2⟩⟩
    · exact absurd w1 v1
    · exact absurd v2 w2
    · exact ⟨rfl, rfl, R.lo e2 M2⟩
    · exact absurd v3 (by omega)
  · have M' := mHp_hi HM e
    refine ⟨rfl, M'.at, _, rfl, (m_point M' x1 x2 x3 r1 r2 r3).mono ?_⟩
    rintro r2 n2 h2 ⟨rfl, e2, ⟨v1, rfl, M2⟩ | ⟨v1, v2, rfl, M2⟩ | ⟨v1, v2, v3, rfl, M2⟩ | ⟨v1, v2, v3, rfl, M2⟩⟩
    · exact absurd w1 v1
    · exact absurd v2 w2
    · exact absurd v3 (by omega)
    · exact ⟨rfl, rfl, m + 1, _, (0, c.2), (0, s.2), -1, cX, cY, cZ, cD, xSt_lo S' e2, Dis_add hD w2, Or.inl rfl, M2, Or.inl ⟨rfl, rfl⟩, fun i hi => absurd hi (Nat.not_lt_zero _), fun i hi => absurd hi (Nat.not_lt_zero _)⟩
set_option maxRecDepth 10000 in
theorem sm_cut {h : xHp} {N : Nat} (a1 a2 a3 a4 : Int32) (R0 : Rel h) : xSameI xmX5_cut xmX6_cut Rel N [.int a1, .int a2, .int a3, .int a4] h := by
  obtain ⟨m, P, c, s, cm, cX, cY, cZ, cD, R⟩ := R0
  rw [int_zI a1, int_zI a2, int_zI a3, int_zI a4]
  have r1 := R3.of a1
  have r2 := R3.of a2
  have r3 := R3.of a3
  have r4 := R3.of a4
  generalize a1.toInt = x1 at *
  generalize a2.toInt = x2 at *
  generalize a3.toInt = x3 at *
  generalize a4.toInt = x4 at *
  obtain ⟨hm, hb, hb'⟩ := R.p
  have hD := R.2.1
  have HS := R.1
  have HM := R.2.2.2.1
  unfold xSameI
  refine (c_cut HS x1 x2 x3 x4 r1 r2 r3 r4).mono ?_
  rintro r n' h' ⟨rfl, hc⟩
  have hN0 := HS.2.2.2.1.2.2.2
  rcases hc with ⟨w1, rfl, rfl⟩ | ⟨w1, w2, rfl, rfl⟩ | ⟨w1, w2, rfl, S', e⟩
  · refine ⟨rfl, HM.at, _, rfl, (m_cut HM c.2 hN0 x1 x2 x3 x4 r1 r2 r3 r4).mono ?_⟩
    rintro r2 n2 h2 ⟨rfl, e2, ⟨v1, rfl, M2⟩ | ⟨v1, v2, rfl, M2⟩ | ⟨v1, v2, rfl, M2⟩⟩
    · exact ⟨rfl, rfl, R.lo e2 M2⟩
    · exact absurd v1 w1
    · exact absurd v1 w1
  · refine ⟨rfl, HM.at, _, rfl, (m_cut HM c.2 hN0 x1 x2 x3 x4 r1 r2 r3 r4).mono ?_⟩
    rintro r2 n2 h2 ⟨rfl, e2, ⟨v1, rfl, M2⟩ | ⟨v1, v2, rfl, M2⟩ | ⟨v1, v2, rfl, M2⟩⟩
    · exact absurd w1 v1
    · exact ⟨rfl, rfl, R.lo e2 M2⟩
    · exact absurd v2 w2
  · have M' := mHp_hi HM e
    refine ⟨rfl, M'.at, _, rfl, (m_cut M' c.2 hN0 x1 x2 x3 x4 r1 r2 r3 r4).mono ?_⟩
    rintro r2 n2 h2 ⟨rfl, e2, ⟨v1, rfl, M2⟩ | ⟨v1, v2, rfl, M2⟩ | ⟨v1, v2, rfl, X', Y', Z', D', M2, ag⟩⟩
    · exact absurd w1 v1
    · exact absurd w2 v2
    · exact ⟨rfl, rfl, m, P, _, s, _, X', Y', Z', D', xSt_lo S' e2, hD, R.2.2.1, M2, Or.inr rfl, ag, cuS_pos P m _ _ _⟩
theorem law_ok {N : Nat} : xLawOK Rel N := by
  refine ⟨fun h R => ?_, fun h a1 a2 a3 R => sm_point a1 a2 a3 R, fun h R => sm_clear R, fun h R => sm_flat R, fun h R => sm_corners R, fun h R => sm_edges R, fun h R => sm_faces R, fun h a1 R => sm_size a1 R, fun h a1 a2 R => sm_at a1 a2 R, fun h a1 a2 R => sm_normal a1 a2 R, fun h R => sm_volume R, fun h a1 a2 R => sm_middle a1 a2 R, fun h a1 a2 a3 a4 R => sm_where a1 a2 a3 a4 R, fun h a1 a2 a3 a4 R => sm_cut a1 a2 a3 a4 R, fun h a1 a2 a3 R => sm_cutAt a1 a2 a3 R, fun h a1 a2 a3 R => sm_shadow a1 a2 a3 R, fun h a1 a2 a3 a4 R => sm_far a1 a2 a3 a4 R, fun h a1 a2 R => sm_way a1 a2 R, fun h R => sm_symmetries R, fun h a1 a2 R => sm_symmetry a1 a2 R, fun h a1 R => sm_turn a1 R, fun h a1 R => sm_order a1 R, fun h R => sm_regular R⟩
  obtain ⟨m, P, c, s, cm, cX, cY, cZ, cD, R⟩ := R
  exact ⟨⟨_, R.1.1⟩, R.2.2.2.1.at⟩
