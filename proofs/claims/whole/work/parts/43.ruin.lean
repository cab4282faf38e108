/-! ruin: whom a voice lacks -/
def qtk (C : Nat → Bool) (w : Nat) : Nat → Nat
  | 0 => 0
  | i + 1 => qtk C w i + (if (C i && decide (qtk C w i < w)) = true then 1 else 0)
def qsl (C : Nat → Bool) (w : Nat) : Nat → Bool := fun j => C j && decide (qtk C w j < w)
theorem qtk_pc (C : Nat → Bool) (w : Nat) : ∀ i, pc (qsl C w) i = qtk C w i := by
  intro i
  induction i with
  | zero => rfl
  | succ i ih =>
    rw [pc, qtk, ih]
    rfl
theorem qtk_le (C : Nat → Bool) (w : Nat) : ∀ i, qtk C w i ≤ w ∧ qtk C w i ≤ i := by
  intro i
  induction i with
  | zero => exact ⟨Nat.zero_le _, Nat.le_refl _⟩
  | succ i ih =>
    rw [qtk]
    by_cases c : (C i && decide (qtk C w i < w)) = true
    · rw [if_pos c]
      rw [Bool.and_eq_true, decide_eq_true_iff] at c
      omega
    · rw [if_neg c]
      omega
theorem pl_least {σ : dc_HP} {b : Nat} (C : Nat → Bool) {w : Nat} (hw : w ≤ 8) : ∀ d i n, i + d = 8 → d < n → fn_X0_leastFree_L17 σ b (nI w) (nI (pm C 8)) n (nI (pm (fun j => decide (j < i) && qsl C w j) 8)) (nI i) = some (nI (pm (qsl C w) 8)) := by
  intro d
  induction d with
  | zero =>
    intro i n hi hn
    obtain ⟨m, rfl⟩ : ∃ m, n = m + 1 := ⟨n - 1, by omega⟩
    obtain rfl : i = 8 := by omega
    unfold fn_X0_leastFree_L17
    rw [if_pos (nI_le (Nat.le_refl 8) (by decide)), pm_all]
  | succ d ih =>
    intro i n hi hn
    obtain ⟨m, rfl⟩ : ∃ m, n = m + 1 := ⟨n - 1, by omega⟩
    have e8 := pc_8 (qsl C w) i (8 - i)
    rw [show i + (8 - i) = 8 by omega, qtk_pc] at e8
    have hl := qtk_le C w i
    unfold fn_X0_leastFree_L17
    rw [if_neg (nI_ge (by omega) (by decide)), fn_X8_bit, px_pmbit _ (by decide) (by omega), Option.bind_some, (px_cnt _).1, Option.bind_some, e8, nI_add]
    cases c : C i with
    | false =>
      rw [if_neg (by decide), pm_acc0 (g := qsl C w) (by simp [qsl, c])]
      exact ih (i + 1) m (by omega) (by omega)
    | true =>
      rw [if_pos (by decide)]
      by_cases c2 : w ≤ qtk C w i
      · rw [if_pos (nI_le c2 (by omega)), pm_acc0 (g := qsl C w) (by simp [qsl, c]; omega)]
        exact ih (i + 1) m (by omega) (by omega)
      · rw [if_neg (nI_ge (by omega) (by omega)), px_set _ (by decide) (by omega), pm_acc1 (g := qsl C w) (by simp [qsl, c]; omega)]
        exact ih (i + 1) m (by omega) (by omega)
