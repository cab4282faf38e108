/-! the pad: signs, and the acts that they tell -/
abbrev pA : Type := Nat × Nat × Nat
abbrev pPd : Type := (Nat → Nat) × Nat
def qsg (P : pPd) (i : Nat) : Nat := if i < P.2 then P.1 i else 0
def pPok (P : pPd) : Prop := P.2 ≤ 60 ∧ ∀ i, i < P.2 → 33 ≤ P.1 i ∧ P.1 i ≤ 126
/-- the class's pad -/
def pP (σ : dc_HP) (P : pPd) : Prop := σ.1 12 0 = nI P.2 ∧ ∀ i, i < P.2 → σ.1 13 i = nI (P.1 i)
theorem pP.other {σ τ : dc_HP} {P : pPd} (h : pP σ P) (h0 : τ.1 12 0 = σ.1 12 0) (h1 : ∀ i, i < P.2 → τ.1 13 i = σ.1 13 i) : pP τ P := ⟨h0.trans h.1, fun i hi => (h1 i hi).trans (h.2 i hi)⟩
theorem qsg_le {P : pPd} (hk : pPok P) (i : Nat) : qsg P i ≤ 126 := by
  unfold qsg
  split
  · next h => exact (hk.2 i h).2
  · omega
theorem pp_at {σ : dc_HP} {P : pPd} (h : pP σ P) (hk : pPok P) {i : Nat} (hi : i < 100) : fn_X4_signAt σ (nI i) = some (nI (qsg P i)) := by
  unfold fn_X4_signAt qsg
  have h60 := hk.1
  rw [px_withinN (by omega) (by decide) (by decide), Option.bind_some, h.1]
  by_cases c : i ≤ 59
  · rw [if_pos (show 0 ≤ i ∧ i ≤ 59 from ⟨Nat.zero_le i, c⟩), if_neg (by simp [px_eq0])]
    by_cases c2 : i < P.2
    · rw [if_neg (nI_ge c2 (by omega)), px_gg (by omega) (by decide), nI_clamp (by omega), h.2 i c2, if_pos c2]
    · rw [if_pos (nI_le (by omega) (by omega)), if_neg c2]
  · rw [if_neg (show ¬ (0 ≤ i ∧ i ≤ 59) from fun q => c q.2), if_pos nI_0, if_neg (show ¬ i < P.2 by omega)]
theorem pp_piece {c : Nat} (hc : c < 2 ^ 31) : fn_X4_isPiece (nI c) = some (nI (if 48 ≤ c ∧ c ≤ 53 then 1 else 0)) := by
  unfold fn_X4_isPiece
  rw [px_withinN hc (by decide) (by decide), Option.bind_some]
  by_cases q : 48 ≤ c ∧ c ≤ 53
  · rw [if_pos q, if_pos (by decide)]
  · rw [if_neg q, if_pos (by decide)]
theorem pp_letter {c : Nat} (hc : c < 2 ^ 31) : fn_X4_isLetter (nI c) = some (nI (if 65 ≤ c ∧ c ≤ 72 then 1 else 0)) := by
  unfold fn_X4_isLetter
  rw [px_withinN hc (by decide) (by decide), Option.bind_some]
  by_cases q : 65 ≤ c ∧ c ≤ 72
  · rw [if_pos q, if_pos (by decide)]
  · rw [if_neg q, if_pos (by decide)]
theorem pp_mark {c : Nat} (hc : c < 2 ^ 31) : fn_X4_isMark (nI c) = some (nI (if c = 43 ∨ c = 42 ∨ c = 61 ∨ c = 120 then 1 else 0)) := by
  unfold fn_X4_isMark
  simp only [nI_eq hc (show 43 < 2 ^ 31 by decide), nI_eq hc (show 42 < 2 ^ 31 by decide), nI_eq hc (show 61 < 2 ^ 31 by decide), nI_eq hc (show 120 < 2 ^ 31 by decide)]
  by_cases c1 : c = 43
  · simp [c1]
  by_cases c2 : c = 42
  · simp [c2]
  by_cases c3 : c = 61
  · simp [c3]
  by_cases c4 : c = 120
  · simp [c4]
  simp [c1, c2, c3, c4]
theorem pp_len {c m : Nat} (hc : c < 2 ^ 31) (hm : m < 2 ^ 31) : fn_X4_lengthOf (nI c) (nI m) = some (nI (if 65 ≤ c ∧ c ≤ 72 then (if m = 43 ∨ m = 61 then 3 else 2) else 1)) := by
  unfold fn_X4_lengthOf
  rw [pp_letter hc, Option.bind_some]
  simp only [nI_eq hm (show 43 < 2 ^ 31 by decide), nI_eq hm (show 61 < 2 ^ 31 by decide)]
  by_cases q : 65 ≤ c ∧ c ≤ 72
  · rw [if_pos q, if_neg (by simp [px_eq0]), if_pos q]
    by_cases c1 : m = 43
    · simp [c1]
    by_cases c2 : m = 61
    · simp [c2]
    simp [c1, c2]
  · rw [if_neg q, if_pos nI_0, if_neg q]
/-- the act at a place: the place of a fault, or the act and its signs -/
def qstep (P : pPd) (i : Nat) : Nat ⊕ (pA × Nat) :=
  if 48 ≤ qsg P i ∧ qsg P i ≤ 53 then .inr ((0, qsg P i - 48, 0), 1)
  else if qsg P i = 46 then .inr ((5, 0, 0), 1)
  else if ¬ (65 ≤ qsg P i ∧ qsg P i ≤ 72) then .inl i
  else if qsg P (i + 1) = 42 then .inr ((2, qsg P i - 65, 0), 2)
  else if qsg P (i + 1) = 120 then .inr ((4, qsg P i - 65, 0), 2)
  else if qsg P (i + 1) = 43 then (if 49 ≤ qsg P (i + 2) ∧ qsg P (i + 2) ≤ 57 then .inr ((1, qsg P i - 65, 10 * (qsg P (i + 2) - 48)), 3) else .inl (i + 2))
  else if qsg P (i + 1) = 61 then (if 65 ≤ qsg P (i + 2) ∧ qsg P (i + 2) ≤ 72 then .inr ((3, qsg P i - 65, qsg P (i + 2) - 65), 3) else .inl (i + 2))
  else .inl (i + 1)
def qpar (P : pPd) : Nat → Nat → Nat ⊕ List pA
  | 0, _ => .inr []
  | f + 1, i => if P.2 ≤ i then .inr [] else match qstep P i with
    | .inl p => .inl p
    | .inr (a, l) => match qpar P f (i + l) with
      | .inl p => .inl p
      | .inr L => .inr (a :: L)
theorem qstep_len {P : pPd} {i : Nat} {a : pA} {l : Nat} (h : qstep P i = .inr (a, l)) : 1 ≤ l ∧ l ≤ 3 ∧ l = (if 65 ≤ qsg P i ∧ qsg P i ≤ 72 then (if qsg P (i + 1) = 43 ∨ qsg P (i + 1) = 61 then 3 else 2) else 1) := by
  unfold qstep at h
  by_cases c1 : 48 ≤ qsg P i ∧ qsg P i ≤ 53
  · rw [if_pos c1] at h
    cases h
    rw [if_neg (by omega)]
    omega
  rw [if_neg c1] at h
  by_cases c2 : qsg P i = 46
  · rw [if_pos c2] at h
    cases h
    rw [if_neg (by omega)]
    omega
  rw [if_neg c2] at h
  by_cases c3 : 65 ≤ qsg P i ∧ qsg P i ≤ 72
  · rw [if_neg (fun q => q c3)] at h
    rw [if_pos c3]
    by_cases c4 : qsg P (i + 1) = 42
    · rw [if_pos c4] at h; cases h; rw [if_neg (by omega)]; omega
    rw [if_neg c4] at h
    by_cases c5 : qsg P (i + 1) = 120
    · rw [if_pos c5] at h; cases h; rw [if_neg (by omega)]; omega
    rw [if_neg c5] at h
    by_cases c6 : qsg P (i + 1) = 43
    · rw [if_pos c6] at h
      split at h
      · cases h; rw [if_pos (by omega)]; omega
      · cases h
    rw [if_neg c6] at h
    by_cases c7 : qsg P (i + 1) = 61
    · rw [if_pos c7] at h
      split at h
      · cases h; rw [if_pos (by omega)]; omega
      · cases h
    rw [if_neg c7] at h
    cases h
  · rw [if_pos c3] at h; cases h
theorem qstep_kind {P : pPd} {i : Nat} {a : pA} {l : Nat} (h : qstep P i = .inr (a, l)) : a.1 < 6 ∧ a.2.1 < 8 ∧ (a.1 = 0 → a.2.1 < 6) ∧ (a.1 = 3 → a.2.2 < 8) ∧ a.2.2 ≤ 90 ∧ (a.1 = 0 ↔ 48 ≤ qsg P i ∧ qsg P i ≤ 53) := by
  unfold qstep at h
  by_cases c1 : 48 ≤ qsg P i ∧ qsg P i ≤ 53
  · rw [if_pos c1] at h
    cases h
    dsimp only
    omega
  rw [if_neg c1] at h
  by_cases c2 : qsg P i = 46
  · rw [if_pos c2] at h
    cases h
    dsimp only
    omega
  rw [if_neg c2] at h
  by_cases c3 : 65 ≤ qsg P i ∧ qsg P i ≤ 72
  · rw [if_neg (fun q => q c3)] at h
    by_cases c4 : qsg P (i + 1) = 42
    · rw [if_pos c4] at h; cases h; dsimp only; omega
    rw [if_neg c4] at h
    by_cases c5 : qsg P (i + 1) = 120
    · rw [if_pos c5] at h; cases h; dsimp only; omega
    rw [if_neg c5] at h
    by_cases c6 : qsg P (i + 1) = 43
    · rw [if_pos c6] at h
      split at h
      · cases h; dsimp only; omega
      · cases h
    rw [if_neg c6] at h
    by_cases c7 : qsg P (i + 1) = 61
    · rw [if_pos c7] at h
      split at h
      · cases h; dsimp only; omega
      · cases h
    rw [if_neg c7] at h
    cases h
  · rw [if_pos c3] at h; cases h
theorem pp_in {σ : dc_HP} {P : pPd} (h : pP σ P) (hk : pPok P) {i : Nat} (hi : i < 90) : fn_X4_faultIn σ (nI i) = some (match qstep P i with
    | .inl p => nI p
    | .inr _ => (-6 : Int32)) := by
  have b0 := qsg_le hk i
  have b1 := qsg_le hk (i + 1)
  have b2 := qsg_le hk (i + 2)
  unfold fn_X4_faultIn
  rw [pp_at h hk (by omega), Option.bind_some, pp_piece (by omega), Option.bind_some, nI_add, nI_add, pp_at h hk (by omega), pp_at h hk (by omega)]
  unfold qstep
  by_cases c1 : 48 ≤ qsg P i ∧ qsg P i ≤ 53
  · rw [if_pos c1, if_pos c1, if_neg (by simp [px_eq0])]
  rw [if_neg c1, if_neg c1, if_pos nI_0]
  by_cases c2 : qsg P i = 46
  · rw [if_pos (by rw [c2]), if_pos c2]
  rw [if_neg (fun q => c2 ((nI_eq (by omega) (by omega)).mp q)), if_neg c2, pp_letter (by omega), Option.bind_some]
  by_cases c3 : 65 ≤ qsg P i ∧ qsg P i ≤ 72
  · rw [if_pos c3, if_neg (by simp [px_eq0]), if_neg (fun q => q c3), Option.bind_some, pp_mark (by omega), Option.bind_some, Option.bind_some]
    have n1 : ∀ k : Nat, k < 2 ^ 31 → (nI (qsg P (i + 1)) = nI k ↔ qsg P (i + 1) = k) := fun k hk => nI_eq (by omega) hk
    simp only [n1 43 (by decide), n1 61 (by decide)]
    by_cases c4 : qsg P (i + 1) = 42
    · simp [c4, px_eq0]
    rw [if_neg c4]
    by_cases c5 : qsg P (i + 1) = 120
    · simp [c5, px_eq0]
    rw [if_neg c5]
    by_cases c6 : qsg P (i + 1) = 43
    · rw [if_pos (show qsg P (i + 1) = 43 ∨ qsg P (i + 1) = 42 ∨ qsg P (i + 1) = 61 ∨ qsg P (i + 1) = 120 from Or.inl c6), if_neg (by simp [px_eq0]), if_pos c6, if_pos c6, px_withinN (by omega) (by decide) (by decide), Option.bind_some]
      by_cases c8 : 49 ≤ qsg P (i + 2) ∧ qsg P (i + 2) ≤ 57
      · rw [if_pos c8, if_neg (by simp [px_eq0]), if_neg (by omega), if_pos c8]
      · rw [if_neg c8, if_pos nI_0, if_neg c8]
    rw [if_neg c6, if_neg c6]
    by_cases c7 : qsg P (i + 1) = 61
    · rw [if_pos (show qsg P (i + 1) = 43 ∨ qsg P (i + 1) = 42 ∨ qsg P (i + 1) = 61 ∨ qsg P (i + 1) = 120 from Or.inr (Or.inr (Or.inl c7))), if_neg (by simp [px_eq0]), if_pos c7, if_pos c7, pp_letter (by omega), Option.bind_some]
      by_cases c8 : 65 ≤ qsg P (i + 2) ∧ qsg P (i + 2) ≤ 72
      · rw [if_pos c8, if_neg (by simp [px_eq0]), if_pos c8]
      · rw [if_neg c8, if_pos nI_0, if_neg c8]
    rw [if_neg c7, if_neg (show ¬ (qsg P (i + 1) = 43 ∨ qsg P (i + 1) = 42 ∨ qsg P (i + 1) = 61 ∨ qsg P (i + 1) = 120) by omega), if_pos nI_0, if_neg c7]
  · rw [if_neg c3, if_pos nI_0, if_pos c3]
theorem px_m6 {a : Nat} (ha : a < 2 ^ 31) : nI a ≠ (-6 : Int32) := by
  intro q
  have := nI_toInt ha
  rw [q] at this
  rw [show ((-6 : Int32)).toInt = -6 by decide] at this
  omega
theorem pl_fault {σ : dc_HP} {P : pPd} (h : pP σ P) (hk : pPok P) : ∀ f i n k, P.2 ≤ i + f → i < 70 → f < n → k ≤ i → fn_X4_faultPlace_L4 σ n (nI i) (nI k) = some (match qpar P f i with
    | .inl p => .inl (nI p)
    | .inr _ => .inr ()) := by
  intro f
  have h60 := hk.1
  induction f with
  | zero =>
    intro i n k h1 h2 hn hki
    obtain ⟨m, rfl⟩ : ∃ m, n = m + 1 := ⟨n - 1, by omega⟩
    unfold fn_X4_faultPlace_L4
    by_cases c60 : 60 ≤ k
    · rw [if_pos (nI_le c60 (by omega))]
      rfl
    · rw [if_neg (show ¬ nI 60 ≤ nI k from nI_ge (by omega) (by decide)), h.1, if_pos (nI_le (by omega) (by omega))]
      rfl
  | succ f ih =>
    intro i n k h1 h2 hn hki
    obtain ⟨m, rfl⟩ : ∃ m, n = m + 1 := ⟨n - 1, by omega⟩
    unfold fn_X4_faultPlace_L4
    rw [h.1, qpar]
    by_cases c : P.2 ≤ i
    · by_cases c60 : 60 ≤ k
      · rw [if_pos (nI_le c60 (by omega)), if_pos c]
      · rw [if_neg (show ¬ nI 60 ≤ nI k from nI_ge (by omega) (by decide)), if_pos (nI_le c (by omega)), if_pos c]
    · have b0 := qsg_le hk i
      have b1 := qsg_le hk (i + 1)
      rw [if_neg (show ¬ nI 60 ≤ nI k from nI_ge (by omega) (by decide)), if_neg (show ¬ nI P.2 ≤ nI i from nI_ge (by omega) (by omega)), if_neg c, pp_in h hk (by omega), Option.bind_some]
      cases hs : qstep P i with
      | inl p =>
        have hp : p < 2 ^ 31 := by
          have : p ≤ i + 2 := by
            unfold qstep at hs
            repeat' split at hs
            all_goals (first | (cases hs; done) | (cases hs; omega))
          omega
        dsimp only
        rw [if_neg (px_m6 hp)]
      | inr q =>
        obtain ⟨a, l⟩ := q
        obtain ⟨l1, l2, l3⟩ := qstep_len hs
        dsimp only
        rw [if_pos rfl, nI_add, pp_at h hk (by omega), pp_at h hk (by omega), Option.bind_some, Option.bind_some, pp_len (by omega) (by omega), Option.bind_some, ← l3, nI_add, nI_add, ih (i + l) m (k + 1) (by omega) (by omega) (by omega) (by omega)]
        cases qpar P f (i + l) <;> rfl
theorem pp_fault {σ : dc_HP} {P : pPd} (h : pP σ P) (hk : pPok P) : fn_X4_faultPlace σ = some (match qpar P 61 0 with
    | .inl p => nI p
    | .inr _ => (-6 : Int32)) := by
  unfold fn_X4_faultPlace
  have h60 := hk.1
  rw [pl_fault h hk 61 0 200 0 (by omega) (by omega) (by decide) (Nat.le_refl 0), Option.bind_some]
  cases qpar P 61 0 <;> rfl
