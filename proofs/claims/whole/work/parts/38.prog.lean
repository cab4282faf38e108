/-! programme: bars and pays of a set -/
def qbs (V : pV) (m : Nat) : Nat → Nat
  | 0 => 0
  | i + 1 => qbs V m i + (if m.testBit i then pba V i else 0)
theorem pl_bars {σ : dc_HP} {V : pV} (h : pC σ 1 V) {s : Nat} (hs : s < 64) : ∀ d i m, i + d = 6 → d < m → fn_X0_barsOfSet_L4 σ 1 (nI s) m (nI (qbs V s i)) (nI i) = some (nI (qbs V s 6)) := by
  intro d
  induction d with
  | zero =>
    intro i m hi hm
    obtain ⟨m, rfl⟩ : ∃ n, m = n + 1 := ⟨m - 1, by omega⟩
    obtain rfl : i = 6 := by omega
    unfold fn_X0_barsOfSet_L4
    rw [if_pos (nI_le (Nat.le_refl _) (by decide))]
  | succ d ih =>
    intro i m hi hm
    obtain ⟨m, rfl⟩ : ∃ n, m = n + 1 := ⟨m - 1, by omega⟩
    have e := ih (i + 1) m (by omega) (by omega)
    unfold fn_X0_barsOfSet_L4
    rw [if_neg (nI_ge (by omega) (by decide)), fn_X8_bit, px_bit (by omega) (by omega), Option.bind_some, pc_barsOf h (by omega), Option.bind_some, pk_mul, nI_add, nI_add]
    cases c : s.testBit i with
    | false =>
      rw [show qbs V s (i + 1) = qbs V s i + 0 by rw [qbs, c]; rfl] at e
      rw [if_neg (by decide), Nat.zero_mul]
      exact e
    | true =>
      rw [show qbs V s (i + 1) = qbs V s i + pba V i by rw [qbs, c]; rfl] at e
      rw [if_pos rfl, Nat.one_mul]
      exact e
theorem pc_bars {σ : dc_HP} {V : pV} (h : pC σ 1 V) {s : Nat} (hs : s < 64) : fn_X0_barsOfSet σ 1 (nI s) = some (nI (qbs V s 6)) := by
  unfold fn_X0_barsOfSet
  have e := pl_bars h hs 6 0 200 rfl (by decide)
  rw [show qbs V s 0 = 0 from rfl] at e
  rw [e, Option.bind_some]
theorem pl_mbars {σ : dc_HP} {V : pV} (h : pM σ V) {s : Nat} (hs : s < 64) : ∀ d i m, i + d = 6 → d < m → fn_X9_barsOf_L4 σ (nI s) m (nI (qbs V s i)) (nI i) = some (nI (qbs V s 6)) := by
  intro d
  induction d with
  | zero =>
    intro i m hi hm
    obtain ⟨m, rfl⟩ : ∃ n, m = n + 1 := ⟨m - 1, by omega⟩
    obtain rfl : i = 6 := by omega
    unfold fn_X9_barsOf_L4
    rw [if_pos (nI_le (Nat.le_refl _) (by decide))]
  | succ d ih =>
    intro i m hi hm
    obtain ⟨m, rfl⟩ : ∃ n, m = n + 1 := ⟨m - 1, by omega⟩
    have e := ih (i + 1) m (by omega) (by omega)
    obtain ⟨_, _, _, _, _, _, _, _, h6, _⟩ := h
    unfold fn_X9_barsOf_L4
    rw [if_neg (nI_ge (by omega) (by decide)), px_bit (by omega) (by omega), px_gg (by omega) (by decide), nI_clamp (by omega), h6 i (by omega), nI_add, nI_add, nI_add]
    cases c : s.testBit i with
    | false =>
      rw [show qbs V s (i + 1) = qbs V s i + 0 by rw [qbs, c]; rfl] at e
      rw [if_neg (by decide)]
      exact e
    | true =>
      rw [show qbs V s (i + 1) = qbs V s i + pba V i by rw [qbs, c]; rfl] at e
      rw [if_pos (by decide)]
      exact e
theorem pm_bars {σ : dc_HP} {V : pV} (h : pM σ V) {s : Nat} (hs : s < 64) : fn_X9_barsOf σ (nI s) = some (nI (qbs V s 6)) := by
  unfold fn_X9_barsOf
  have e := pl_mbars h hs 6 0 200 rfl (by decide)
  rw [show qbs V s 0 = 0 from rfl] at e
  rw [e, Option.bind_some]
