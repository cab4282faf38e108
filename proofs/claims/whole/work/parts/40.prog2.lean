theorem pm_needsOf {σ : dc_HP} {V : pV} (h : pM σ V) {p : Nat} (hp : p < 6) : fn_X9_needsOf σ (nI p) = some (nI (qn4 V p)) := by
  obtain ⟨_, _, _, _, _, _, _, h5, _, _⟩ := h
  have g0 := h5 p hp 0 (by decide)
  have g1 := h5 p hp 1 (by decide)
  have g2 := h5 p hp 2 (by decide)
  have g3 := h5 p hp 3 (by decide)
  rw [Nat.add_zero] at g0
  unfold fn_X9_needsOf qn4
  rw [pk_mul, nI_add, nI_add, nI_add, px_gg (by omega) (by decide), px_gg (by omega) (by decide), px_gg (by omega) (by decide), px_gg (by omega) (by decide), nI_clamp (by omega), nI_clamp (by omega), nI_clamp (by omega), nI_clamp (by omega), g0, g1, g2, g3, nI_add, nI_add, nI_add]
theorem pl_mpays {σ : dc_HP} {V : pV} (h : pM σ V) {s : Nat} (hs : s < 64) : ∀ d i m, i + d = 6 → d < m → fn_X9_paysOf_L4 σ (nI s) m (nI (qps V s i)) (nI i) = some (nI (qps V s 6)) := by
  intro d
  induction d with
  | zero =>
    intro i m hi hm
    obtain ⟨m, rfl⟩ : ∃ n, m = n + 1 := ⟨m - 1, by omega⟩
    obtain rfl : i = 6 := by omega
    unfold fn_X9_paysOf_L4
    rw [if_pos (nI_le (Nat.le_refl _) (by decide))]
  | succ d ih =>
    intro i m hi hm
    obtain ⟨m, rfl⟩ : ∃ n, m = n + 1 := ⟨m - 1, by omega⟩
    have e := ih (i + 1) m (by omega) (by omega)
    have hn := pm_needsOf h (p := i) (by omega)
    obtain ⟨_, _, _, _, _, _, _, _, h6, h7⟩ := h
    unfold fn_X9_paysOf_L4
    rw [if_neg (nI_ge (by omega) (by decide)), px_bit (by omega) (by omega), px_gg (by omega) (by decide), px_gg (by omega) (by decide), hn, Option.bind_some, nI_clamp (by omega), h6 i (by omega), h7 i (by omega), pk_mul, pk_mul, nI_add, nI_add, nI_add]
    cases c : s.testBit i with
    | false =>
      rw [show qps V s (i + 1) = qps V s i + 0 by rw [qps, c]; rfl] at e
      rw [if_neg (by decide)]
      exact e
    | true =>
      rw [show qps V s (i + 1) = qps V s i + pba V i * ppy V i * qn4 V i by rw [qps, c]; rfl] at e
      rw [if_pos (by decide)]
      exact e
theorem pm_pays {σ : dc_HP} {V : pV} (h : pM σ V) {s : Nat} (hs : s < 64) : fn_X9_paysOf σ (nI s) = some (nI (qps V s 6)) := by
  unfold fn_X9_paysOf
  have e := pl_mpays h hs 6 0 200 rfl (by decide)
  rw [show qps V s 0 = 0 from rfl] at e
  rw [e, Option.bind_some]
