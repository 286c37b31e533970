/-! pure: the beginning -/
theorem rel0 : Rel nj_s0 nj_m0 := by
  refine ⟨fun r hr => ?_, fun t ht => ?_, ?_, ⟨rfl, fun j hj => rfl⟩, rfl, rfl, rfl⟩
  · rcases (by omega : r = 0 ∨ r = 1 ∨ r = 2 ∨ r = 3 ∨ r = 4 ∨ r = 5) with rfl | rfl | rfl | rfl | rfl | rfl <;> exact ⟨rfl, Or.inl rfl⟩
  · rcases (by omega : t = 0 ∨ t = 1 ∨ t = 2 ∨ t = 3) with rfl | rfl | rfl | rfl <;> exact ⟨rfl, Or.inl rfl⟩
  · refine ⟨(0, (fun _ => 0), (fun _ => 0), (fun _ => 0), 0, 0, 0), ⟨⟨⟨by show 0 ≤ 6; omega, rfl⟩, fun i hi => absurd hi (Nat.not_lt_zero _), fun i hi => absurd hi (Nat.not_lt_zero _), fun i hi => absurd hi (Nat.not_lt_zero _), ⟨rfl, by show 0 < 4; omega⟩, ⟨rfl, by show 0 < 2 ^ 0; decide⟩, rfl⟩, ⟨rfl, rfl, fun i hi => absurd hi (Nat.not_lt_zero _), fun i hi => absurd hi (Nat.not_lt_zero _), rfl⟩, ⟨⟨by show 0 ≤ 6; omega, fun i hi => absurd hi (Nat.not_lt_zero _), fun i hi => absurd hi (Nat.not_lt_zero _), by show 0 < 4; omega, by show 0 < 2 ^ 0; decide⟩, fun i hi => absurd hi (Nat.not_lt_zero _), fun i hi => absurd hi (Nat.not_lt_zero _)⟩, 0, (fun _ => 0), by omega, rfl, rfl, fun j hj => absurd hj (Nat.not_lt_zero _), fun j hj => absurd hj (Nat.not_lt_zero _)⟩, rfl, fun i hi => absurd hi (Nat.not_lt_zero _), fun k hk => Or.inl ?_⟩
    rcases (by omega : k = 0 ∨ k = 1 ∨ k = 2) with rfl | rfl | rfl <;> exact ⟨rfl, rfl⟩
