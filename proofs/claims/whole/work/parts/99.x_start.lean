/-! The start -/
def m00 : Mm := (fun c f => if c = 25 ∧ f = 3 then -1 else if c = 36 ∧ f = 4 then 1 else if c = 37 ∧ (f = 2 ∨ f = 4) then 1 else if c = 38 ∧ f = 3 then 2 else if c = 38 ∧ f = 4 then 1 else if c = 39 ∧ (f = 2 ∨ f = 3 ∨ f = 4) then 1 else 0, fun c => List.replicate (lA c) 0, fun c => List.replicate (lB c) 0, fun c f => if c = 23 then 3 else if f = 12 then 36 else 39)
theorem hp_00 : hp m00 = hp0 := by rfl
def D00 : Db := fun _ => (0, [], fun _ => false)
theorem ws_00 : WS m00 [] D00 (fun _ => []) an0 := by
  have nil : ∀ q (m : Mm), TX q m [] := fun q m => ⟨by decide, fun i hi => absurd hi (Nat.not_lt_zero i), fun c hc => by cases hc⟩
  refine ⟨fun c hc => ⟨List.length_replicate, List.length_replicate⟩, nil _ _, nil _ _, rfl, rfl, ⟨rfl, rfl, rfl, rfl, fun r c hr => absurd hr (Nat.not_lt_zero r)⟩, ⟨rfl, rfl, rfl, rfl, fun r c hr => absurd hr (Nat.not_lt_zero r)⟩, ⟨by decide, by decide⟩, fun t ht => ?_, fun t ht => ?_, fun t ht => ?_, ?_⟩
  · rcases (by omega : t = 0 ∨ t = 1 ∨ t = 2) with rfl | rfl | rfl
    · exact ⟨rfl, rfl, fun i hi => absurd hi (Nat.not_lt_zero i), fun c hc => by rcases (by omega : c = 0 ∨ c = 1 ∨ c = 2 ∨ c = 3) with rfl | rfl | rfl | rfl <;> rfl⟩
    · exact ⟨rfl, rfl, fun i hi => absurd hi (Nat.not_lt_zero i), fun c hc => by rcases (by omega : c = 0 ∨ c = 1 ∨ c = 2 ∨ c = 3) with rfl | rfl | rfl | rfl <;> rfl⟩
    · exact ⟨rfl, rfl, fun i hi => absurd hi (Nat.not_lt_zero i), fun c hc => by rcases (by omega : c = 0 ∨ c = 1 ∨ c = 2 ∨ c = 3) with rfl | rfl | rfl | rfl <;> rfl⟩
  · rcases (by omega : t = 0 ∨ t = 1 ∨ t = 2) with rfl | rfl | rfl
    · exact ⟨rfl, rfl, List.Perm.refl _, fun i hi => absurd hi (Nat.not_lt_zero i), fun c hc => by rcases (by omega : c = 0 ∨ c = 1 ∨ c = 2 ∨ c = 3) with rfl | rfl | rfl | rfl <;> rfl⟩
    · exact ⟨rfl, rfl, List.Perm.refl _, fun i hi => absurd hi (Nat.not_lt_zero i), fun c hc => by rcases (by omega : c = 0 ∨ c = 1 ∨ c = 2 ∨ c = 3) with rfl | rfl | rfl | rfl <;> rfl⟩
    · exact ⟨rfl, rfl, List.Perm.refl _, fun i hi => absurd hi (Nat.not_lt_zero i), fun c hc => by rcases (by omega : c = 0 ∨ c = 1 ∨ c = 2 ∨ c = 3) with rfl | rfl | rfl | rfl <;> rfl⟩
  · exact ⟨Nat.zero_le _, Nat.zero_le _, (fun r hr => by cases hr), fun _ => rfl, (fun c hc => by cases hc), (fun r hr => by cases hr), List.Pairwise.nil⟩
  · exact ⟨⟨rfl, rfl⟩, ⟨rfl, rfl⟩, ⟨rfl, rfl⟩, ⟨rfl, rfl⟩⟩
