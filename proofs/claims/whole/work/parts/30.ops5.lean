/-! piece -/
def qdg (n i : Nat) : Nat := n / 10 ^ i % 10
theorem pl_digit {k : Nat} (hk : k < 100) : ∀ d i m n, i + d = k → d < m → n < 2 ^ 31 → fn_X8_digitOf_L4 (nI k) m (nI n) (nI i) = some (nI (n / 10 ^ d)) := by
  intro d
  induction d with
  | zero =>
    intro i m n hi hm hn
    obtain ⟨m, rfl⟩ : ∃ n, m = n + 1 := ⟨m - 1, by omega⟩
    obtain rfl : i = k := by omega
    unfold fn_X8_digitOf_L4
    rw [if_pos (nI_le (Nat.le_refl _) (by omega)), Nat.pow_zero, Nat.div_one]
  | succ d ih =>
    intro i m n hi hm hn
    obtain ⟨m, rfl⟩ : ∃ n, m = n + 1 := ⟨m - 1, by omega⟩
    unfold fn_X8_digitOf_L4
    rw [if_neg (nI_ge (by omega) (by omega)), px_div10 hn, nI_add, ih (i + 1) m (n / 10) (by omega) (by omega) (by omega), Nat.div_div_eq_div_mul, Nat.pow_succ, Nat.mul_comm]
theorem px_digit {n k : Nat} (hn : n < 2 ^ 31) (hk : k < 100) : fn_X8_digitOf (nI n) (nI k) = some (nI (qdg n k)) := by
  unfold fn_X8_digitOf qdg
  have : n / 10 ^ k < 2 ^ 31 := Nat.lt_of_le_of_lt (Nat.div_le_self _ _) hn
  rw [show (nI 0) = nI 0 from rfl, pl_digit hk k 0 200 n (by omega) (by omega) hn, Option.bind_some, px_rem10 this]
def qnds (n : Nat) : Prop := qdg n 0 ≤ 3 ∧ qdg n 1 ≤ 3 ∧ qdg n 2 ≤ 3 ∧ qdg n 3 ≤ 3
theorem qnds_le {n : Nat} (h : n ≤ 9999) (hq : qnds n) : n ≤ 3333 := by
  unfold qnds qdg at hq
  omega
theorem px_needs {x : Int32} : (∀ n, x = nI n → n ≤ 9999 → qnds n → fn_X8_areNeeds x = some (nI 1)) ∧ ((¬ pr x 0 9999 ∨ ∃ n, x = nI n ∧ n ≤ 9999 ∧ ¬ qnds n) → fn_X8_areNeeds x = some (nI 0)) := by
  have key : ∀ n, n ≤ 9999 → fn_X8_areNeeds_L15 (nI n) 200 (nI 0) = some (if qdg n 0 ≤ 3 then (if qdg n 1 ≤ 3 then (if qdg n 2 ≤ 3 then (if qdg n 3 ≤ 3 then .inr () else .inl (nI 0)) else .inl (nI 0)) else .inl (nI 0)) else .inl (nI 0)) := by
    intro n hn
    have d : ∀ i, qdg n i < 10 := fun i => Nat.mod_lt _ (by decide)
    have c : ∀ i, (nI (qdg n i) ≤ nI 3 ↔ qdg n i ≤ 3) := fun i => nI_leI (by have := d i; omega) (by decide)
    have st : ∀ i m, i < 4 → fn_X8_areNeeds_L15 (nI n) (m + 1) (nI i) = (if qdg n i ≤ 3 then fn_X8_areNeeds_L15 (nI n) m (nI (i + 1)) else some (.inl (nI 0))) := by
      intro i m hi
      rw [fn_X8_areNeeds_L15, if_neg (nI_ge hi (by decide)), px_digit (by omega) (by omega), Option.bind_some, nI_add]
      simp only [c i]
    have en : ∀ m, fn_X8_areNeeds_L15 (nI n) (m + 1) (nI 4) = some (.inr ()) := by
      intro m
      rw [fn_X8_areNeeds_L15, if_pos (nI_le (Nat.le_refl _) (by decide))]
    rw [show (200 : Nat) = 199 + 1 from rfl, st 0 199 (by decide), show (199 : Nat) = 198 + 1 from rfl, st 1 198 (by decide), show (198 : Nat) = 197 + 1 from rfl, st 2 197 (by decide), show (197 : Nat) = 196 + 1 from rfl, st 3 196 (by decide), show (196 : Nat) = 195 + 1 from rfl, en 195]
    by_cases c0 : qdg n 0 ≤ 3 <;> by_cases c1 : qdg n 1 ≤ 3 <;> by_cases c2 : qdg n 2 ≤ 3 <;> by_cases c3 : qdg n 3 ≤ 3 <;> simp [c0, c1, c2, c3]
  have hin : ∀ n, n ≤ 9999 → pr (nI n) 0 9999 := fun n hn => by unfold pr; rw [nI_toInt (by omega)]; omega
  refine ⟨fun n hx hn hq => ?_, fun h => ?_⟩
  · rw [hx]
    unfold fn_X8_areNeeds
    rw [(px_within (by decide) (by decide)).1 (hin n hn), Option.bind_some, if_neg (by decide), key n hn, if_pos hq.1, if_pos hq.2.1, if_pos hq.2.2.1, if_pos hq.2.2.2]
    rfl
  · unfold fn_X8_areNeeds
    rcases h with h | ⟨n, hx, hn, hq⟩
    · rw [(px_within (by decide) (by decide)).2 h, Option.bind_some, if_pos nI_0]
    · rw [hx, (px_within (by decide) (by decide)).1 (hin n hn), Option.bind_some, if_neg (by decide), key n hn]
      unfold qnds at hq
      by_cases c0 : qdg n 0 ≤ 3 <;> by_cases c1 : qdg n 1 ≤ 3 <;> by_cases c2 : qdg n 2 ≤ 3 <;> by_cases c3 : qdg n 3 ≤ 3 <;> first | (exfalso; exact hq ⟨c0, c1, c2, c3⟩) | (simp only [c0, c1, c2, c3, if_true, if_false]; rfl)
/-- the reference's loop, once it is no -/
theorem pl_mneed0 : ∀ d i m (x : Int32), i + d = 4 → d < m → fn_X9_areNeeds_L14 m (nI 0) x (nI i) = some (nI 0) := by
  intro d
  induction d with
  | zero =>
    intro i m x hi hm
    obtain ⟨m, rfl⟩ : ∃ n, m = n + 1 := ⟨m - 1, by omega⟩
    obtain rfl : i = 4 := by omega
    unfold fn_X9_areNeeds_L14
    rw [if_pos (nI_le (Nat.le_refl _) (by decide))]
  | succ d ih =>
    intro i m x hi hm
    obtain ⟨m, rfl⟩ : ∃ n, m = n + 1 := ⟨m - 1, by omega⟩
    unfold fn_X9_areNeeds_L14
    rw [if_neg (nI_ge (by omega) (by decide)), if_pos nI_0, nI_add]
    exact ih (i + 1) m _ (by omega) (by omega)
theorem pl_mneed1 : ∀ d i m n, i + d = 4 → d < m → n < 2 ^ 31 → ((∀ j, j < d → qdg n j ≤ 3) → fn_X9_areNeeds_L14 m (nI 1) (nI n) (nI i) = some (nI 1)) ∧ (¬ (∀ j, j < d → qdg n j ≤ 3) → fn_X9_areNeeds_L14 m (nI 1) (nI n) (nI i) = some (nI 0)) := by
  intro d
  induction d with
  | zero =>
    intro i m n hi hm hn
    obtain ⟨m, rfl⟩ : ∃ n, m = n + 1 := ⟨m - 1, by omega⟩
    obtain rfl : i = 4 := by omega
    unfold fn_X9_areNeeds_L14
    rw [if_pos (nI_le (Nat.le_refl _) (by decide))]
    exact ⟨fun _ => rfl, fun q => absurd (fun j hj => absurd hj (Nat.not_lt_zero j)) q⟩
  | succ d ih =>
    intro i m n hi hm hn
    obtain ⟨m, rfl⟩ : ∃ n, m = n + 1 := ⟨m - 1, by omega⟩
    have e : ∀ j, qdg n (j + 1) = qdg (n / 10) j := fun j => by unfold qdg; rw [Nat.div_div_eq_div_mul, Nat.pow_succ, Nat.mul_comm 10]
    have e0 : qdg n 0 = n % 10 := by unfold qdg; rw [Nat.pow_zero, Nat.div_one]
    obtain ⟨g1, g2⟩ := ih (i + 1) m (n / 10) (by omega) (by omega) (by omega)
    unfold fn_X9_areNeeds_L14
    rw [if_neg (nI_ge (by omega) (by decide)), if_neg (by decide), px_rem10 hn, px_inN (lo := 0) (hi := 3) (by omega) (by decide) (by decide), Option.bind_some, px_div10 hn, nI_add]
    by_cases c : n % 10 ≤ 3
    · rw [if_pos (show 0 ≤ n % 10 ∧ n % 10 ≤ 3 by omega), if_neg (by decide)]
      refine ⟨fun q => g1 (fun j hj => by rw [← e]; exact q (j + 1) (by omega)), fun q => g2 (fun r => q (fun j hj => ?_))⟩
      cases j with
      | zero => rw [e0]; exact c
      | succ j => rw [e]; exact r j (by omega)
    · rw [if_neg (show ¬ (0 ≤ n % 10 ∧ n % 10 ≤ 3) by omega), if_pos nI_0]
      exact ⟨fun q => absurd (by have := q 0 (by omega); rwa [e0] at this) c, fun _ => pl_mneed0 d (i + 1) m _ (by omega) (by omega)⟩
theorem pm_needs {x : Int32} : (∀ n, x = nI n → n ≤ 9999 → qnds n → fn_X9_areNeeds x = some (nI 1)) ∧ ((¬ pr x 0 9999 ∨ ∃ n, x = nI n ∧ n ≤ 9999 ∧ ¬ qnds n) → fn_X9_areNeeds x = some (nI 0)) := by
  have q4 : ∀ n, qnds n ↔ ∀ j, j < 4 → qdg n j ≤ 3 := by
    intro n
    constructor
    · intro h j hj
      rcases (show j = 0 ∨ j = 1 ∨ j = 2 ∨ j = 3 by omega) with rfl | rfl | rfl | rfl
      · exact h.1
      · exact h.2.1
      · exact h.2.2.1
      · exact h.2.2.2
    · intro h
      exact ⟨h 0 (by decide), h 1 (by decide), h 2 (by decide), h 3 (by decide)⟩
  have e0 : ∀ y, (if nI 0 = 0 ∨ nI 0 = 1 then some y else none) = some (y : Int32) := fun y => if_pos (Or.inl nI_0)
  have e1 : ∀ y, (if nI 1 = 0 ∨ nI 1 = 1 then some y else none) = some (y : Int32) := fun y => if_pos (by decide)
  refine ⟨fun n hx hn hq => ?_, fun h => ?_⟩
  · have := qnds_le hn hq
    rw [hx]
    unfold fn_X9_areNeeds
    rw [px_inN (lo := 0) (hi := 3333) (by omega) (by decide) (by decide), if_pos (by omega), Option.bind_some, (pl_mneed1 4 0 200 n rfl (by decide) (by omega)).1 ((q4 n).mp hq), Option.bind_some, e1]
  · unfold fn_X9_areNeeds
    by_cases c : pr x 0 3333
    · rw [(px_in (lo := 0) (hi := 3333) (by decide) (by decide)).1 c, Option.bind_some]
      rcases h with h | ⟨n, hx, hn, hq⟩
      · exact absurd (by unfold pr at c ⊢; omega) h
      · rw [hx, (pl_mneed1 4 0 200 n rfl (by decide) (by omega)).2 (fun z => hq ((q4 n).mpr z)), Option.bind_some, e0]
    · rw [(px_in (lo := 0) (hi := 3333) (by decide) (by decide)).2 c, Option.bind_some, pl_mneed0 4 0 200 x rfl (by decide), Option.bind_some, e0]
