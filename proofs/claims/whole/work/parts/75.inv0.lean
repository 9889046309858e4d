/-! the start -/
def B0 : Bk := (0, 0, fun _ => 0, fun _ _ => [], fun _ => 0, fun _ => 0, fun _ => 0, fun _ => [])
def T0 : Tx := (0, fun _ => [], fun _ => 0, fun _ => 0, 0, [], 0)
theorem inv0 : InvA (fun _ _ => 0, fun _ _ => 0) := by
  refine ⟨([], B0, T0, fun _ => none), ⟨⟨by decide, fun x hx => by cases hx⟩, ⟨by decide, by decide, fun t ht => absurd ht (Nat.not_lt_zero t), fun t ht => absurd ht (Nat.not_lt_zero t)⟩, ⟨by decide, fun i hi => absurd hi (Nat.not_lt_zero i), by decide, ⟨fun x hx => (by cases hx), by decide⟩, by decide, fun h => rfl, fun _ => rfl⟩, fun i B h => by cases h⟩, ?_, ?_⟩
  · refine ⟨⟨rfl, fun i x h => by simp at h⟩, ⟨rfl, rfl, fun t ht => absurd ht (Nat.not_lt_zero t), fun t ht => absurd ht (Nat.not_lt_zero t)⟩, ⟨rfl, rfl, rfl, rfl, fun i hi => absurd hi (Nat.not_lt_zero i)⟩, ⟨rfl, rfl⟩, ⟨0, Nat.le_refl _, rfl, ⟨fun i hi => absurd hi (Nat.not_lt_zero i), fun i hi => absurd hi (Nat.not_lt_zero i)⟩, Or.inl rfl⟩, Or.inl rfl⟩
  · exact ⟨⟨rfl, fun i x h => by simp at h⟩, ⟨rfl, rfl, fun t ht => absurd ht (Nat.not_lt_zero t), fun t ht => absurd ht (Nat.not_lt_zero t)⟩, ⟨rfl, rfl, fun i hi => absurd hi (Nat.not_lt_zero i), ⟨rfl, fun j y h => by cases h⟩, rfl⟩, rfl, rfl⟩
