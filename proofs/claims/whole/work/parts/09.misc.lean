/-! small rows on the store -/
theorem aj_u2_at {α : Type} {f : Nat → Nat → α} {o k : Nat} {v : α} : aj_u2 f o k v o k = v := by rw [aj_u2_eq, aj_up_eq]
theorem aj_u2_n1 {α : Type} {f : Nat → Nat → α} {o k a j : Nat} {v : α} (h : a ≠ o) : aj_u2 f o k v a j = f a j := by rw [aj_u2_ne h]
theorem aj_u2_n2 {α : Type} {f : Nat → Nat → α} {o k j : Nat} {v : α} (h : j ≠ k) : aj_u2 f o k v o j = f o j := by rw [aj_u2_eq, aj_up_ne h]
