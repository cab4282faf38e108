/-! the state of new objects -/
def qV0 : pV := (fun _ => false, fun _ => false, fun _ => false, 0, fun _ => 0, fun _ => 0, fun _ _ => 0, fun _ => 0, fun _ => 0)
def qG0 : pG := (qV0, (fun _ => 0, 0), (fun _ => 0, fun _ => 0, 0), none, none)
theorem pm_f0 : pm (fun _ => false) 8 = 0 := by decide
theorem pRL_init {σ : dc_HP} (h : ∀ c j, σ.1 c j = nI 0) : pRL σ := by
  have hm0 : ∀ c j, σ.1 c j = nI (pm (fun _ => false) 8) := fun c j => by rw [pm_f0]; exact h c j
  refine ⟨qG0, ⟨⟨Nat.zero_le _, fun _ _ => (by decide : 0 < 4), fun _ _ => Nat.zero_le _, fun _ _ _ _ => Nat.zero_le _, fun _ _ => Nat.zero_le _, fun _ _ => Nat.zero_le _, fun _ _ _ => ⟨rfl, rfl, rfl⟩⟩, ⟨Nat.zero_le _, fun i hi => absurd hi (Nat.not_lt_zero i)⟩, ⟨Nat.zero_le _, fun i hi => absurd hi (Nat.not_lt_zero i)⟩, fun x q => (by cases q), fun x q => (by cases q)⟩, ⟨⟨hm0 _ _, hm0 _ _, hm0 _ _, h _ _, fun _ _ => h _ _, fun _ _ => h _ _, fun _ _ _ _ => h _ _, fun _ _ => h _ _, fun _ _ => h _ _⟩, ⟨h _ _, fun i hi => absurd hi (Nat.not_lt_zero i)⟩, ⟨h _ _, fun i hi => absurd hi (Nat.not_lt_zero i)⟩, h _ _, h _ _⟩, ⟨⟨fun _ => false, fun _ => false, hm0 _ _, hm0 _ _, hm0 _ _, h _ _, fun k _ ht => (by cases ht), fun _ _ _ _ => h _ _, fun _ _ => h _ _, fun _ _ => h _ _⟩, ⟨h _ _, fun i hi => absurd hi (Nat.not_lt_zero i)⟩, ⟨h _ _, fun i hi => absurd hi (Nat.not_lt_zero i)⟩, h _ _, h _ _⟩⟩
