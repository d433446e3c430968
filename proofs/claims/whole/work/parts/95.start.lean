/-! The start: both are new -/
abbrev p0 : Nat → V3 := fun _ => (0, 0, 0)
abbrev f0 : FD := ((0, 0, 0), 0, 0, 0, 0, fun _ => 0)
theorem v0 : vbd 20 (0, 0, 0) := ⟨by decide, by decide, by decide⟩
theorem v0' : vbd 3200 (0, 0, 0) := ⟨by decide, by decide, by decide⟩
theorem fv0 : fdV f0 := ⟨v0', ⟨by decide, by decide⟩, by decide, by decide, by decide, fun k _ => by show 0 < 14; decide⟩
theorem hf_start {h : xHp} {rd : Nat → Option Nat} (h6 : h 6 = some (.inl (24, .inr (.inr (.inr (.inr rd)))))) (hrd : ∀ i, i < 24 → rd i = some (9 + 2 * i)) (hO : ∀ i, i < 24 → h (9 + 2 * i) = some (xOl 0 0 0 0 0 0 0 (10 + 2 * i)) ∧ h (10 + 2 * i) = some (xI14 fun _ => 0)) : xHf h (fun i => 9 + 2 * i) (fun _ => f0) := by
  refine ⟨⟨rd, h6, hrd⟩, fun i hi => ?_, fun i j _ _ e => ?_, fun i hi => ?_, fun i _ => fv0⟩
  · show 9 ≤ 9 + 2 * i ∧ 9 + 2 * i ≤ 55 ∧ (9 + 2 * i) % 2 = 1
    omega
  · have e : 9 + 2 * i = 9 + 2 * j := e
    omega
  · show h (9 + 2 * i) = some (fdC f0 (9 + 2 * i + 1)) ∧ h (9 + 2 * i + 1) = some (fdA f0)
    rw [show 9 + 2 * i + 1 = 10 + 2 * i by omega]
    exact hO i hi
set_option maxRecDepth 10000 in
theorem st_start {h : xHp} (H : xIc h) : xSt h 0 p0 (0, fun _ => 0) (0, fun _ => 0, fun _ => 0) := by
  obtain ⟨h0, h1, h2, h3, h4, h5, ⟨rd, h6, hrd⟩, h7, h8, hO, h57, h58, h59, h60, h61, h62, h63⟩ := H
  exact ⟨h0, ⟨h1, h2, h3, h4, by omega, fun j _ => v0⟩, ⟨h5, Nat.zero_le _, ⟨_, _, hf_start h6 hrd hO, fun i hi => absurd hi (Nat.not_lt_zero _)⟩, ⟨fun _ => 0, h7, fun j _ => rfl⟩, fun _ => 0, h8, fun j _ => rfl⟩, ⟨h57, h58, Nat.zero_le _, fun j _ => by show (-1000000 : Int) ≤ 0 ∧ (0 : Int) ≤ 1000000; decide⟩, ⟨moH_self h59 h60 h61, Nat.zero_le _, fun j _ => by show 0 < 14; decide, fun j _ => by show 0 < 14; decide⟩, (0, 0, 0), 0, 0, 0, 0, fun _ => 0, h62, h63⟩
set_option maxRecDepth 10000 in
theorem md_start {h : xHp} (H : xIm h) : mHp h 0 p0 (-1) (fun _ => 0) (fun _ => 0) (fun _ => 0) (fun _ => 0) := by
  obtain ⟨h64, h65, h66, h67, h68, h69, h70, h71, h72, h73, h74, h75, h76, h77, h78, h79, h80, h81, h82, h83, h84, h85⟩ := H
  refine ⟨h, 0, 0, 0, 0, 0, fun _ => 0, fun _ => 0, fun _ => 0, p0, fun _ => 0, (0, 0, 0), fun _ => 0, (0, 0, 0, 0), fun _ => 0, fun _ => 0, 0, fun _ => 0, fun _ => 0, fun _ => 0, fun _ => 0, funext fun j => ?_, ⟨by omega, fun j _ => v0, fun j k hj => absurd hj (Nat.not_lt_zero _)⟩, ⟨fun j _ => by show 0 < 16384; decide, fun j _ => v0', fun j _ => by show (-1000000 : Int) ≤ 0 ∧ (0 : Int) ≤ 1000000; decide, fun j _ => by show 0 < 14; decide⟩, Or.inl rfl, Or.inl rfl, (fun e => absurd e (by decide)), (fun e => absurd e (by decide))⟩
  unfold mdH
  by_cases e64 : j = 64
  · rw [if_pos e64, e64]; exact h64
  rw [if_neg e64]
  by_cases e65 : j = 65
  · rw [if_pos e65, e65]; exact h65
  rw [if_neg e65]
  by_cases e66 : j = 66
  · rw [if_pos e66, e66]; exact h66
  rw [if_neg e66]
  by_cases e67 : j = 67
  · rw [if_pos e67, e67]; exact h67
  rw [if_neg e67]
  by_cases e68 : j = 68
  · rw [if_pos e68, e68]; exact h68
  rw [if_neg e68]
  by_cases e69 : j = 69
  · rw [if_pos e69, e69]; exact h69
  rw [if_neg e69]
  by_cases e70 : j = 70
  · rw [if_pos e70, e70]; exact h70
  rw [if_neg e70]
  by_cases e71 : j = 71
  · rw [if_pos e71, e71]; exact h71
  rw [if_neg e71]
  by_cases e72 : j = 72
  · rw [if_pos e72, e72]; exact h72
  rw [if_neg e72]
  by_cases e73 : j = 73
  · rw [if_pos e73, e73]; exact h73
  rw [if_neg e73]
  by_cases e74 : j = 74
  · rw [if_pos e74, e74]; exact h74
  rw [if_neg e74]
  by_cases e75 : j = 75
  · rw [if_pos e75, e75]; exact h75
  rw [if_neg e75]
  by_cases e76 : j = 76
  · rw [if_pos e76, e76]; exact h76
  rw [if_neg e76]
  by_cases e77 : j = 77
  · rw [if_pos e77, e77]; exact h77
  rw [if_neg e77]
  by_cases e78 : j = 78
  · rw [if_pos e78, e78]; exact h78
  rw [if_neg e78]
  by_cases e79 : j = 79
  · rw [if_pos e79, e79]; exact h79
  rw [if_neg e79]
  by_cases e80 : j = 80
  · rw [if_pos e80, e80]; exact h80
  rw [if_neg e80]
  by_cases e81 : j = 81
  · rw [if_pos e81, e81]; exact h81
  rw [if_neg e81]
  by_cases e82 : j = 82
  · rw [if_pos e82, e82]; exact h82
  rw [if_neg e82]
  by_cases e83 : j = 83
  · rw [if_pos e83, e83]; exact h83
  rw [if_neg e83]
  by_cases e84 : j = 84
  · rw [if_pos e84, e84]; exact h84
  rw [if_neg e84]
  by_cases e85 : j = 85
  · rw [if_pos e85, e85]; exact h85
  rw [if_neg e85]
theorem rel_start {h h' : xHp} (H : xIc h) (H' : xIm h') (e : ∀ j, j < 64 → h' j = h j) : Rel h' :=
  ⟨0, p0, (0, fun _ => 0), (0, fun _ => 0, fun _ => 0), -1, fun _ => 0, fun _ => 0, fun _ => 0, fun _ => 0, xSt_lo (st_start H) e, fun j k hj => absurd hj (Nat.not_lt_zero _), Or.inl rfl, md_start H', Or.inl ⟨rfl, rfl⟩, fun i hi => absurd hi (Nat.not_lt_zero _), fun i hi => absurd hi (Nat.not_lt_zero _)⟩
