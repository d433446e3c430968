set_option maxRecDepth 10000 in
theorem c_isPoint (k : Int32) (n : Nat) (h : xHp) : xPure xmX5_isPoint 1 [.int k] n h (.int (if 0 ≤ k ∧ k < 14 then 1 else 0)) := by
  refine xCall.of xgX5_isPoint rfl ?_
  refine tt_op rfl rfl ?_
  refine tt_if rfl (fun c1 => ?_) (fun c1 => ?_)
  · refine tt_op rfl rfl ?_
    refine tt_ireturn rfl rfl (by decide) (Nat.le_refl _) (Nat.le_refl _) ⟨?_, rfl, rfl⟩
    have c1 : k < 0 := c1
    rw [if_neg (by intro q; exact absurd c1 (Int32.not_lt.mpr q.1))]
    rfl
  · refine tt_op rfl rfl ?_
    refine tt_op rfl rfl ?_
    refine tt_icmp rfl (fun c2 => ?_) (fun c2 => ?_)
    · refine tt_op rfl rfl ?_
      refine tt_ireturn rfl rfl (by decide) (Nat.le_refl _) (Nat.le_refl _) ⟨?_, rfl, rfl⟩
      have c2 : 14 ≤ k := c2
      rw [if_neg (by intro q; exact absurd q.2 (Int32.not_lt.mpr c2))]
      rfl
    · refine tt_op rfl rfl ?_
      refine tt_goto rfl ?_
      refine tt_ireturn rfl rfl (by decide) (Nat.le_refl _) (Nat.le_refl _) ⟨?_, rfl, rfl⟩
      have c1 : ¬ k < 0 := c1
      have c2 : ¬ 14 ≤ k := c2
      rw [if_pos ⟨Int32.not_lt.mp c1, Int32.not_le.mp c2⟩]
      rfl
set_option maxRecDepth 10000 in
theorem c_sum (k : Int32) (x y z : Int64) (n : Nat) (h : xHp) (q qx qy qz : Nat) (c : Int32) (fx fy fz : Nat → Int32) (h0 : h q = some (.inr (0, [.int c, .ref qx, .ref qy, .ref qz]))) (h1 : h qx = some (.inl (14, .inl fx))) (h2 : h qy = some (.inl (14, .inl fy))) (h3 : h qz = some (.inl (14, .inl fz))) : xPure xmX0_sum 2 [.ref q, .int k, .long x, .long y, .long z] n h (.long (if 0 ≤ k ∧ k < 14 then x * (fx k.toNatClampNeg).toInt64 + y * (fy k.toNatClampNeg).toInt64 + z * (fz k.toNatClampNeg).toInt64 else 0)) := by
  refine xCall.of xgX0_sum rfl ?_
  refine tt_op rfl rfl ?_
  refine tt_pS rfl rfl rfl rfl (c_isPoint k n h) ?_
  refine tt_if rfl (fun c1 => ?_) (fun c1 => ?_)
  · refine tt_op rfl rfl ?_
    refine tt_lreturn rfl rfl (Nat.le_refl _) (Nat.le_refl _) ⟨?_, rfl, rfl⟩
    sorry
  · have hk : vp_in k 14 := sorry
    refine tt_op rfl rfl ?_
    refine tt_op rfl rfl ?_
    refine tt_get rfl (by assumption) (by rfl) ?_
    refine tt_op rfl rfl ?_
    refine tt_iald rfl h1 hk ?_
    refine tt_op rfl rfl ?_
    refine tt_op rfl rfl ?_
    refine tt_op rfl rfl ?_
    refine tt_op rfl rfl ?_
    refine tt_get rfl (by assumption) (by rfl) ?_
    refine tt_op rfl rfl ?_
    refine tt_iald rfl h2 hk ?_
    refine tt_op rfl rfl ?_
    refine tt_op rfl rfl ?_
    refine tt_op rfl rfl ?_
    refine tt_op rfl rfl ?_
    refine tt_op rfl rfl ?_
    refine tt_get rfl (by assumption) (by rfl) ?_
    refine tt_op rfl rfl ?_
    refine tt_iald rfl h3 hk ?_
    refine tt_op rfl rfl ?_
    refine tt_op rfl rfl ?_
    refine tt_op rfl rfl ?_
    refine tt_goto rfl ?_
    refine tt_lreturn rfl rfl (Nat.le_refl _) (Nat.le_refl _) ⟨?_, rfl, rfl⟩
    sorry
