def sm_d1 : DecidableEq (List Int32) := inferInstance
def sm_d2 : DecidableEq (List Int64) := inferInstance
def sm_d3 : DecidableEq (List (Option Nat)) := inferInstance
def sm_dA (a b : sm_A) : Decidable (a = b) := match a, b with
  | .inl x, .inl y => (match sm_d1 x y with | isTrue h => isTrue (by rw [h]) | isFalse h => isFalse (fun q => h (Sum.inl.inj q)))
  | .inr (.inl x), .inr (.inl y) => (match sm_d2 x y with | isTrue h => isTrue (by rw [h]) | isFalse h => isFalse (fun q => h (Sum.inl.inj (Sum.inr.inj q))))
  | .inr (.inr x), .inr (.inr y) => (match sm_d3 x y with | isTrue h => isTrue (by rw [h]) | isFalse h => isFalse (fun q => h (Sum.inr.inj (Sum.inr.inj q))))
  | .inl _, .inr _ => isFalse (fun q => by cases q)
  | .inr _, .inl _ => isFalse (fun q => by cases q)
  | .inr (.inl _), .inr (.inr _) => isFalse (fun q => by cases q)
  | .inr (.inr _), .inr (.inl _) => isFalse (fun q => by cases q)
def sm_dE (a b : sm_E) : Decidable (a = b) := match a, b with
  | .inl (t, x), .inl (u, y) => (match Nat.decEq t u, sm_dA x y with | isTrue h, isTrue g => isTrue (by rw [h, g]) | isFalse h, _ => isFalse (fun q => by cases q; exact h rfl) | _, isFalse h => isFalse (fun q => by cases q; exact h rfl))
  | .inr (t, x), .inr (u, y) => (match Nat.decEq t u, (inferInstance : Decidable (x = y)) with | isTrue h, isTrue g => isTrue (by rw [h, g]) | isFalse h, _ => isFalse (fun q => by cases q; exact h rfl) | _, isFalse h => isFalse (fun q => by cases q; exact h rfl))
  | .inl _, .inr _ => isFalse (fun q => by cases q)
  | .inr _, .inl _ => isFalse (fun q => by cases q)
def sm_dH : DecidableEq sm_H := @instDecidableEqList _ sm_dE
def sm_dO (a b : sm_O) : Decidable (a = b) := match a, b with
  | none, none => isTrue rfl
  | some (x, g), some (y, h) => (match (inferInstance : Decidable (x = y)), sm_dH g h with | isTrue h, isTrue g => isTrue (by rw [h, g]) | isFalse h, _ => isFalse (fun q => by cases q; exact h rfl) | _, isFalse h => isFalse (fun q => by cases q; exact h rfl))
  | none, some _ => isFalse (fun q => by cases q)
  | some _, none => isFalse (fun q => by cases q)
theorem sm_dec {a b : sm_O} (h : @decide (a = b) (sm_dO a b) = true) : a = b := @of_decide_eq_true _ (sm_dO a b) h
