/-! fugue: the class -/
theorem px_ls {σ : dc_HP} {k j : Nat} {v : Int64} : (dc_wL σ k j v).2 k j = v := if_pos ⟨rfl, rfl⟩
theorem px_ln {σ : dc_HP} {k j a b : Nat} {v : Int64} (h : ¬ (a = k ∧ b = j)) : (dc_wL σ k j v).2 a b = σ.2 a b := if_neg h
theorem px_l1 {σ : dc_HP} {k j : Nat} {v : Int64} : (dc_wL σ k j v).1 = σ.1 := rfl
theorem px_i2 {σ : dc_HP} {k j : Nat} {v : Int32} : (dc_wI σ k j v).2 = σ.2 := rfl
theorem pc_best {σ : dc_HP} {k : Nat} (hk : k < 10) : fn_X1_bestOf σ (nI k) = some (σ.2 29 k) := by
  unfold fn_X1_bestOf
  rw [px_withinN (by omega) (by decide) (by decide), if_pos (show 0 ≤ k ∧ k ≤ 9 by omega), Option.bind_some, if_neg (by decide), px_gg hk (by decide), nI_clamp (by omega)]
theorem pl_f12 {c : Nat} : ∀ d i m σ, i + d = 10 → d < m → (∀ j, j < i → σ.2 29 j = (-nI c * nI j).toInt64) → ∃ τ, fn_X1_start_L12 (nI c) m (nI i) σ = some τ ∧ τ.1 = σ.1 ∧ (∀ j, j < 10 → τ.2 29 j = (-nI c * nI j).toInt64) ∧ τ.2 28 0 = σ.2 28 0 := by
  intro d
  induction d with
  | zero =>
    intro i m σ hi hm h
    obtain ⟨m, rfl⟩ : ∃ q, m = q + 1 := ⟨m - 1, by omega⟩
    obtain rfl : i = 10 := by omega
    rw [fn_X1_start_L12, if_pos (nI_lt (by decide) (by decide))]
    exact ⟨σ, rfl, rfl, h, rfl⟩
  | succ d ih =>
    intro i m σ hi hm h
    obtain ⟨m, rfl⟩ : ∃ q, m = q + 1 := ⟨m - 1, by omega⟩
    rw [fn_X1_start_L12, if_neg (nI_nlt (by omega) (by omega)), px_gg (by omega) (by decide), nI_clamp (by omega), nI_add]
    simp only [dc_let]
    obtain ⟨τ, e, f, g, k⟩ := ih (i + 1) m (dc_wL σ 29 i ((-nI c * nI i).toInt64)) (by omega) (by omega) (fun j hj => by
      by_cases z : j = i
      · rw [z, px_ls]
      · rw [px_ln (by omega)]; exact h j (by omega))
    exact ⟨τ, e, f, g, k.trans (px_ln (by omega))⟩
theorem pl_f19 {w : Nat → Int64} {t : Nat} (ht : t ≤ 10) (y : Int32) : ∀ d i m σ, i + d = 10 → d < m → (∀ j, j < 10 → σ.2 29 j = w j) → (∀ j, j < i → σ.2 30 j = qsn w t j) → ∃ τ, fn_X1_evening_L19 (nI t) y m (nI i) σ = some τ ∧ τ.1 = σ.1 ∧ (∀ j, j < 10 → τ.2 30 j = qsn w t j) ∧ ∀ c j, c ≠ 30 → τ.2 c j = σ.2 c j := by
  intro d
  induction d with
  | zero =>
    intro i m σ hi hm hw h
    obtain ⟨m, rfl⟩ : ∃ q, m = q + 1 := ⟨m - 1, by omega⟩
    obtain rfl : i = 10 := by omega
    rw [fn_X1_evening_L19, if_pos (nI_lt (by decide) (by decide))]
    exact ⟨σ, rfl, rfl, h, fun _ _ _ => rfl⟩
  | succ d ih =>
    intro i m σ hi hm hw h
    obtain ⟨m, rfl⟩ : ∃ q, m = q + 1 := ⟨m - 1, by omega⟩
    have st : fn_X1_evening_L19 (nI t) y (m + 1) (nI i) σ = fn_X1_evening_L19 (nI t) y m (nI (i + 1)) (dc_wL σ 30 i (qsn w t i)) := by
      rw [fn_X1_evening_L19, if_neg (nI_nlt (by omega) (by omega)), nI_add]
      unfold qsn
      by_cases c : i = 0
      · rw [if_pos ((px_eq0 (by omega)).mpr c), pc_best (by decide), Option.bind_some, px_gg (by omega) (by decide), nI_clamp (by omega), hw 0 (by decide), if_pos c]
        rfl
      · have mn : (if nI (i + 1) < nI 9 then nI (i + 1) else nI 9) = nI (if i + 1 < 9 then i + 1 else 9) := by
          by_cases q : i + 1 < 9
          · rw [if_pos q, if_pos (nI_lt q (by decide))]
          · rw [if_neg q, if_neg (nI_nlt (by omega) (by omega))]
        have lt : (if i + 1 < 9 then i + 1 else 9) < 10 := by split <;> omega
        rw [if_neg (fun q => c ((px_eq0 (by omega)).mp q)), pk_sub (by omega), pc_best (by omega), Option.bind_some, mn, pc_best lt, Option.bind_some, px_gg (by omega) (by decide), nI_clamp (by omega), hw _ lt, hw (i - 1) (by omega), if_neg c]
        rfl
    rw [st]
    obtain ⟨τ, e, f, g, k⟩ := ih (i + 1) m (dc_wL σ 30 i (qsn w t i)) (by omega) (by omega) (fun j hj => (px_ln (by omega)).trans (hw j hj)) (fun j hj => by
      by_cases z : j = i
      · rw [z, px_ls]
      · rw [px_ln (by omega)]; exact h j (by omega))
    exact ⟨τ, e, f, g, fun c j hc => (k c j hc).trans (px_ln (by omega))⟩
theorem qbo_bit {b i : Nat} (hi : i < 10) (hb : b < 2 ^ 10) : b ||| 2 ^ i < 2 ^ 10 ∧ ∀ j, (b ||| 2 ^ i).testBit j = (b.testBit j || decide (i = j)) := by
  refine ⟨Nat.or_lt_two_pow hb (pw2_lt hi), fun j => ?_⟩
  rw [Nat.testBit_or, Nat.testBit_two_pow]
theorem pl_f84 {w : Nat → Int64} {t g : Nat} {al : Int64} : ∀ d i m σ b, i + d = 10 → d < m → (∀ j, j < 10 → σ.2 30 j = qsn w t j) → σ.2 28 0 = al → (∀ j, j < i → σ.2 29 j = qnx w t g al j) → σ.1 28 1 = nI b → b < 2 ^ 10 → (∀ j, j < 10 → b.testBit j = (decide (j < i) && qbo w t g al j)) → ∃ τ b', fn_X1_evening_L84 (nI g) m (nI i) σ = some τ ∧ (∀ c j, ¬ (c = 28 ∧ j = 1) → τ.1 c j = σ.1 c j) ∧ τ.1 28 1 = nI b' ∧ b' < 2 ^ 10 ∧ (∀ j, j < 10 → b'.testBit j = qbo w t g al j) ∧ (∀ j, j < 10 → τ.2 29 j = qnx w t g al j) ∧ τ.2 28 0 = al := by
  intro d
  induction d with
  | zero =>
    intro i m σ b hi hm h30 hal h29 hb hb2 hbit
    obtain ⟨m, rfl⟩ : ∃ q, m = q + 1 := ⟨m - 1, by omega⟩
    obtain rfl : i = 10 := by omega
    rw [fn_X1_evening_L84, if_pos (nI_lt (by decide) (by decide))]
    exact ⟨σ, b, rfl, fun _ _ _ => rfl, hb, hb2, fun j hj => by rw [hbit j hj]; simp [hj], h29, hal⟩
  | succ d ih =>
    intro i m σ b hi hm h30 hal h29 hb hb2 hbit
    obtain ⟨m, rfl⟩ : ∃ q, m = q + 1 := ⟨m - 1, by omega⟩
    have hi10 : i < 10 := by omega
    have keep : qbo w t g al i = false → qnx w t g al i = qsn w t i → ∃ τ b', fn_X1_evening_L84 (nI g) m (nI (i + 1)) (dc_wL σ 29 i (qsn w t i)) = some τ ∧ (∀ c j, ¬ (c = 28 ∧ j = 1) → τ.1 c j = σ.1 c j) ∧ τ.1 28 1 = nI b' ∧ b' < 2 ^ 10 ∧ (∀ j, j < 10 → b'.testBit j = qbo w t g al j) ∧ (∀ j, j < 10 → τ.2 29 j = qnx w t g al j) ∧ τ.2 28 0 = al := by
      intro z1 z2
      exact ih (i + 1) m (dc_wL σ 29 i (qsn w t i)) b (by omega) (by omega) (fun j hj => (px_ln (by omega)).trans (h30 j hj)) ((px_ln (by omega)).trans hal) (fun j hj => by
        by_cases z : j = i
        · rw [z, px_ls, z2]
        · rw [px_ln (by omega)]; exact h29 j (by omega)) hb hb2 (fun j hj => by
        rw [hbit j hj]
        by_cases z : j = i
        · rw [z, z1]; simp
        · congr 1
          exact decide_eq_decide.mpr ⟨fun q => by omega, fun q => by omega⟩)
    rw [fn_X1_evening_L84, if_neg (nI_nlt (by omega) (by omega)), px_gg hi10 (by decide), px_gg hi10 (by decide), nI_clamp (by omega), h30 i hi10, nI_add]
    simp only [dc_let]
    by_cases c : 9 ≤ i
    · rw [if_pos (nI_le c (by omega))]
      refine keep ?_ ?_
      · unfold qbo
        rw [decide_eq_false (by omega), Bool.false_and]
      · unfold qnx
        rw [if_pos c]
    · have e30 : ∀ j, j < 10 → (dc_wL σ 29 i (qsn w t i)).2 30 j = qsn w t j := fun j hj => (px_ln (by omega)).trans (h30 j hj)
      rw [if_neg (nI_ge (by omega) (by decide)), px_gg (by omega) (by decide), px_gi hi10 (by decide), nI_clamp (by omega), e30 _ (by omega), e30 _ hi10, px_ln (by omega), hal, show (nI g).toInt64 * al + qsn w t (i + 1) = qmo w t g al i from rfl]
      by_cases c2 : lg_cmp (qmo w t g al i) (qsn w t i) ≤ 0
      · rw [if_pos c2]
        refine keep ?_ ?_
        · unfold qbo
          rw [decide_eq_false (show ¬ ¬ lg_cmp (qmo w t g al i) (qsn w t i) ≤ 0 from fun q => q c2), Bool.and_false]
        · unfold qnx
          rw [if_neg c, if_pos c2]
      · have z2 : qnx w t g al i = qmo w t g al i := by unfold qnx; rw [if_neg c, if_neg c2]
        have z1 : qbo w t g al i = true := by unfold qbo; rw [decide_eq_true (show i < 9 by omega), decide_eq_true c2]; rfl
        rw [if_neg c2, px_gi (by omega) (by decide), px_gi hi10 (by decide), px_l1, px_l1, hb, px_shl1 i (by omega), px_or]
        have q := qbo_bit hi10 hb2
        have l2 : ∀ a x, ¬ (a = 29 ∧ x = i) → (dc_wI (dc_wL (dc_wL σ 29 i (qsn w t i)) 29 i (qmo w t g al i)) 28 1 (nI (b ||| 2 ^ i))).2 a x = σ.2 a x := fun a x h => by rw [px_i2, px_ln h, px_ln h]
        obtain ⟨τ, b', e1, e2, e3, e4, e5, e6, e7⟩ := ih (i + 1) m (dc_wI (dc_wL (dc_wL σ 29 i (qsn w t i)) 29 i (qmo w t g al i)) 28 1 (nI (b ||| 2 ^ i))) (b ||| 2 ^ i) (by omega) (by omega) (fun j hj => (l2 30 j (by omega)).trans (h30 j hj)) ((l2 28 0 (by omega)).trans hal) (fun j hj => by
          rw [px_i2]
          by_cases z : j = i
          · rw [z, px_ls, z2]
          · rw [px_ln (by omega), px_ln (by omega)]; exact h29 j (by omega)) px_ws q.1 (fun j hj => by
          rw [q.2 j, hbit j hj]
          by_cases z : j = i
          · rw [z, z1]; simp
          · rw [decide_eq_false (fun y : i = j => z y.symm), Bool.or_false]
            congr 1
            exact decide_eq_decide.mpr ⟨fun q => by omega, fun q => by omega⟩)
        exact ⟨τ, b', e1, fun c j hc => (e2 c j hc).trans (px_wn hc), e3, e4, e5, e6, e7⟩
def pFu (σ : dc_HP) (w : Nat → Int64) (al : Int64) (f : Nat → Bool) : Prop := (∀ j, j < 10 → σ.2 29 j = w j) ∧ σ.2 28 0 = al ∧ ∃ b, σ.1 28 1 = nI b ∧ b < 2 ^ 10 ∧ ∀ j, j < 10 → b.testBit j = f j
theorem pc_evening {σ : dc_HP} {w : Nat → Int64} {al : Int64} {f : Nat → Bool} {t g : Nat} (ht : t ≤ 10) (h : pFu σ w al f) : ∃ τ, fn_X1_evening σ (nI t) (nI g) = some τ ∧ (∀ c j, ¬ (c = 28 ∧ j = 1) → τ.1 c j = σ.1 c j) ∧ pFu τ (qnx w t g (al * 10)) (al * 10) (qbo w t g (al * 10)) := by
  obtain ⟨h1, h2, b, h3, h4, h5⟩ := h
  unfold fn_X1_evening
  simp only [dc_let]
  generalize hα : dc_wI (dc_wL σ 28 0 (σ.2 28 0 * (10 : Int64))) 28 1 (nI 0) = α
  have a29 : ∀ j, j < 10 → α.2 29 j = w j := fun j hj => by rw [← hα, px_i2, px_ln (by omega)]; exact h1 j hj
  have a28 : α.2 28 0 = al * 10 := by rw [← hα, px_i2, px_ls, h2]
  have a1 : ∀ c j, ¬ (c = 28 ∧ j = 1) → α.1 c j = σ.1 c j := fun c j hc => by rw [← hα, px_wn hc, px_l1]
  have a0 : α.1 28 1 = nI 0 := by rw [← hα, px_ws]
  obtain ⟨β, b1, b2, b3, b4⟩ := pl_f19 ht (nI g) 10 0 200 α rfl (by decide) a29 (fun j hj => absurd hj (Nat.not_lt_zero _))
  obtain ⟨τ, b', c1, c2, c3, c4, c5, c6, c7⟩ := pl_f84 (w := w) (t := t) (g := g) (al := al * 10) 10 0 200 β 0 rfl (by decide) b3 ((b4 28 0 (by decide)).trans a28) (fun j hj => absurd hj (Nat.not_lt_zero _)) (by rw [b2]; exact a0) (by decide) (fun j hj => by simp)
  rw [b1, Option.bind_some, c1, Option.bind_some]
  exact ⟨τ, rfl, fun c j hc => by rw [c2 c j hc, b2]; exact a1 c j hc, c6, c7, b', c3, c4, c5⟩
theorem pl_f88 {c t g mm : Nat} (ht : t ≤ 10) (hmm : mm ≤ 8) (x1 x6 x7 : Int32) : ∀ d i n σ, i + d = mm → d < n → pFu σ (qfw c t g i) (qun i) (qfb c t g i) → ∃ τ, fn_X8_fugue_L88 x1 (nI mm) (nI t) (nI g) x6 x7 n (nI i) σ = some τ ∧ (∀ c j, ¬ (c = 28 ∧ j = 1) → τ.1 c j = σ.1 c j) ∧ pFu τ (qfw c t g mm) (qun mm) (qfb c t g mm) := by
  intro d
  induction d with
  | zero =>
    intro i n σ hi hn h
    obtain ⟨n, rfl⟩ : ∃ q, n = q + 1 := ⟨n - 1, by omega⟩
    obtain rfl : i = mm := by omega
    rw [fn_X8_fugue_L88, if_pos (nI_le (Nat.le_refl _) (by omega))]
    exact ⟨σ, rfl, fun _ _ _ => rfl, h⟩
  | succ d ih =>
    intro i n σ hi hn h
    obtain ⟨n, rfl⟩ : ∃ q, n = q + 1 := ⟨n - 1, by omega⟩
    obtain ⟨α, a1, a2, a3⟩ := pc_evening (g := g) ht h
    obtain ⟨τ, e1, e2, e3⟩ := ih (i + 1) n α (by omega) (by omega) a3
    rw [fn_X8_fugue_L88, if_neg (nI_ge (by omega) (by omega)), a1, Option.bind_some, nI_add]
    exact ⟨τ, e1, fun c j hc => (e2 c j hc).trans (a2 c j hc), e3⟩
theorem pc_fstart {σ : dc_HP} {c t g : Nat} : ∃ τ, fn_X1_start σ (nI c) = some τ ∧ (∀ c j, ¬ (c = 28 ∧ j = 1) → τ.1 c j = σ.1 c j) ∧ pFu τ (qfw c t g 0) (qun 0) (qfb c t g 0) := by
  unfold fn_X1_start
  simp only [dc_let]
  obtain ⟨τ, e, f, g1, k⟩ := pl_f12 (c := c) 10 0 200 (dc_wI (dc_wL σ 28 0 (1 : Int64)) 28 1 (nI 0)) rfl (by decide) (fun j hj => absurd hj (Nat.not_lt_zero _))
  rw [e, Option.bind_some]
  refine ⟨τ, rfl, fun c j hc => ?_, g1, ?_, 0, ?_, by decide, fun j _ => ?_⟩
  · rw [f, px_wn hc, px_l1]
  · rw [k, px_i2, px_ls]; rfl
  · rw [f, px_ws]
  · rw [Nat.zero_testBit]; rfl
