/-! image, restore: the reference's passing -/
def cel (i : Nat) : Nat × Nat := if i < 4 then (55, i) else if i = 4 then (55, 11) else if i < 13 then (56, i - 5) else if i < 21 then (57, i - 13) else if i < 45 then (58, i - 21) else if i < 51 then (59, i - 45) else if i < 57 then (60, i - 51) else if i < 65 then (61, i - 57) else (62, i - 65)
set_option maxRecDepth 100000 in
theorem cel_inj : ∀ a, a < 73 → ∀ i, i < 73 → (!(decide ((cel a).1 = (cel i).1) && decide ((cel a).2 = (cel i).2)) || decide (a = i)) = true := by decide +kernel
set_option maxRecDepth 100000 in
theorem cel_in : ∀ a, a < 73 → (decide (55 ≤ (cel a).1) && decide ((cel a).1 ≤ 62) && !(decide ((cel a).1 = 55) && decide (12 ≤ (cel a).2))) = true := by decide +kernel
theorem cel_i {a i : Nat} (ha : a < 73) (hi : i < 73) (h1 : (cel a).1 = (cel i).1) (h2 : (cel a).2 = (cel i).2) : a = i := by
  have e := cel_inj a ha i hi
  rw [decide_eq_true h1, decide_eq_true h2] at e
  simpa using e
theorem cel_r {a : Nat} (ha : a < 73) : 55 ≤ (cel a).1 ∧ (cel a).1 ≤ 62 ∧ ((cel a).1 = 55 → (cel a).2 < 12) := by
  have e := cel_in a ha
  simp only [Bool.and_eq_true, decide_eq_true_iff, Bool.not_eq_true', Bool.and_eq_false_iff, decide_eq_false_iff_not] at e
  exact ⟨e.1.1, e.1.2, fun h => by rcases e.2 with q | q <;> omega⟩
def qvl (σ : dc_HP) (w : Bool) (z a : Nat) : Int32 := if w = true then σ.1 (cel a).1 (cel a).2 else σ.1 75 (z + a)
def qInv (σ : dc_HP) (w : Bool) (z i : Nat) (τ : dc_HP) : Prop := (∀ a, a < i → τ.1 (cel a).1 (cel a).2 = qvl σ w z a ∧ τ.1 75 (z + a) = qvl σ w z a) ∧ (∀ c j, (∀ a, a < i → ¬ (c = (cel a).1 ∧ j = (cel a).2)) → ¬ (c = 75 ∧ z ≤ j ∧ j < z + i) → ¬ (c = 55 ∧ j = 34) → τ.1 c j = σ.1 c j) ∧ τ.1 55 34 = nI (z + i) ∧ τ.1 55 35 = nI (if w = true then 1 else 0)
theorem pm_pass {σ τ : dc_HP} {w : Bool} {z i : Nat} (h : qInv σ w z i τ) (hi : i < 73) (hz : z + 73 ≤ 180) : ∃ υ, fn_X9_pass τ (τ.1 (cel i).1 (cel i).2) = some (qvl σ w z i, υ) ∧ qInv σ w z (i + 1) (dc_wI υ (cel i).1 (cel i).2 (qvl σ w z i)) := by
  obtain ⟨h1, h2, h3, h4⟩ := h
  obtain ⟨c1, c2, c3⟩ := cel_r hi
  have e1 : τ.1 (cel i).1 (cel i).2 = σ.1 (cel i).1 (cel i).2 := h2 _ _ (fun a ha q => by have := cel_i (by omega) hi q.1.symm q.2.symm; omega) (by omega) (by omega)
  have e2 : τ.1 75 (z + i) = σ.1 75 (z + i) := h2 _ _ (fun a ha q => by have := cel_r (show a < 73 by omega); omega) (by omega) (by omega)
  refine ⟨dc_wI (dc_wI τ 75 (z + i) (qvl σ w z i)) 55 34 (nI (z + i + 1)), ?_, ?_, ?_, ?_, ?_⟩
  · have v : (if (τ.1 55 35) = 0 then if (τ.1 55 34) < 0 ∨ 180 ≤ (τ.1 55 34).toNatClampNeg then none else some (τ.1 75 (τ.1 55 34).toNatClampNeg) else some (τ.1 (cel i).1 (cel i).2)) = some (qvl σ w z i) := by
      rw [h3, h4, px_gg (by omega) (by decide), nI_clamp (by omega), e1, e2]
      unfold qvl
      cases w with
      | true => rw [if_neg (by decide), if_pos rfl]
      | false => rw [if_pos (by decide), if_neg (by decide)]
    unfold fn_X9_pass
    rw [v, Option.bind_some, h3, px_gg (by omega) (by decide), nI_clamp (by omega)]
    simp only [dc_let]
    rw [px_wn (by omega), h3, nI_add]
  · intro a ha
    by_cases q : a = i
    · subst q
      refine ⟨px_ws, ?_⟩
      rw [px_wn (by omega), px_wn (by omega), px_ws]
    · have ha' : a < 73 := by omega
      obtain ⟨d1, d2, d3⟩ := cel_r ha'
      have ne : ¬ ((cel a).1 = (cel i).1 ∧ (cel a).2 = (cel i).2) := fun y => q (cel_i ha' hi y.1 y.2)
      refine ⟨?_, ?_⟩
      · rw [px_wn ne, px_wn (by omega), px_wn (by omega)]; exact (h1 a (by omega)).1
      · rw [px_wn (by omega), px_wn (by omega), px_wn (by omega)]; exact (h1 a (by omega)).2
  · intro c j q1 q2 q3
    rw [px_wn (q1 i (by omega)), px_wn q3, px_wn (fun y => q2 ⟨y.1, by omega⟩)]
    exact h2 c j (fun a ha => q1 a (by omega)) (fun y => q2 ⟨y.1, by omega, by omega⟩) q3
  · rw [px_wn (by omega), px_ws]
    rfl
  · rw [px_wn (by omega), px_wn (by omega), px_wn (by omega), h4]
theorem pl_row {σ : dc_HP} {w : Bool} {z q m base : Nat} (hz : z + 73 ≤ 180) (hm : m ≤ 24) (hb : base + m ≤ 73) (hl : dc_len q = m) (hc : ∀ k, k < m → cel (base + k) = (q, k)) : ∀ d k n τ, k + d = m → d < n → qInv σ w z (base + k) τ → ∃ υ, fn_X9_passRow_L2 q (nI m) n (nI k) τ = some υ ∧ qInv σ w z (base + m) υ := by
  intro d
  induction d with
  | zero =>
    intro k n τ hk hn h
    obtain ⟨n, rfl⟩ : ∃ q, n = q + 1 := ⟨n - 1, by omega⟩
    obtain rfl : k = m := by omega
    rw [fn_X9_passRow_L2, if_pos (nI_le (Nat.le_refl _) (by omega))]
    exact ⟨τ, rfl, h⟩
  | succ d ih =>
    intro k n τ hk hn h
    obtain ⟨n, rfl⟩ : ∃ q, n = q + 1 := ⟨n - 1, by omega⟩
    obtain ⟨α, a1, a2⟩ := pm_pass h (by omega) hz
    rw [hc k (by omega)] at a1 a2
    dsimp only at a1 a2
    obtain ⟨υ, u1, u2⟩ := ih (k + 1) n _ (by omega) (by omega) a2
    rw [fn_X9_passRow_L2, if_neg (nI_ge (by omega) (by omega)), hl, px_gg (by omega) (by omega), nI_clamp (by omega), a1, Option.bind_some, px_gi (by omega) (by omega), nI_add]
    simp only [dc_let]
    exact ⟨υ, u1, u2⟩
theorem pm_row {σ : dc_HP} {w : Bool} {z q m base : Nat} (hz : z + 73 ≤ 180) (hm : m ≤ 24) (hb : base + m ≤ 73) (hl : dc_len q = m) (hc : ∀ k, k < m → cel (base + k) = (q, k)) {τ : dc_HP} (h : qInv σ w z base τ) : ∃ υ, fn_X9_passRow τ q (nI m) = some υ ∧ qInv σ w z (base + m) υ := by
  obtain ⟨υ, u1, u2⟩ := pl_row hz hm hb hl hc m 0 200 τ (by omega) (by omega) h
  unfold fn_X9_passRow
  rw [u1, Option.bind_some]
  exact ⟨υ, rfl, u2⟩
theorem pm_all' {σ : dc_HP} {w : Bool} {z : Nat} (hz : z + 73 ≤ 180) (h34 : σ.1 55 34 = nI z) (h35 : σ.1 55 35 = nI (if w = true then 1 else 0)) : ∃ υ, fn_X9_passAll σ = some υ ∧ qInv σ w z 73 υ := by
  have h0 : qInv σ w z 0 σ := ⟨fun a ha => absurd ha (Nat.not_lt_zero _), fun _ _ _ _ _ => rfl, h34, h35⟩
  obtain ⟨α0, a0, b0⟩ := pm_pass h0 (by decide) hz
  generalize hβ0 : dc_wI α0 (cel 0).1 (cel 0).2 (qvl σ w z 0) = β0 at b0
  obtain ⟨α1, a1, b1⟩ := pm_pass b0 (by decide) hz
  generalize hβ1 : dc_wI α1 (cel (0 + 1)).1 (cel (0 + 1)).2 (qvl σ w z (0 + 1)) = β1 at b1
  obtain ⟨α2, a2, b2⟩ := pm_pass b1 (by decide) hz
  generalize hβ2 : dc_wI α2 (cel (0 + 1 + 1)).1 (cel (0 + 1 + 1)).2 (qvl σ w z (0 + 1 + 1)) = β2 at b2
  obtain ⟨α3, a3, b3⟩ := pm_pass b2 (by decide) hz
  generalize hβ3 : dc_wI α3 (cel (0 + 1 + 1 + 1)).1 (cel (0 + 1 + 1 + 1)).2 (qvl σ w z (0 + 1 + 1 + 1)) = β3 at b3
  obtain ⟨α4, a4, b4⟩ := pm_pass b3 (by decide) hz
  generalize hβ4 : dc_wI α4 (cel (0 + 1 + 1 + 1 + 1)).1 (cel (0 + 1 + 1 + 1 + 1)).2 (qvl σ w z (0 + 1 + 1 + 1 + 1)) = β4 at b4
  have z0 : fn_X9_pass σ (σ.1 55 0) = some (qvl σ w z 0, α0) := a0
  have z1 : fn_X9_pass β0 (β0.1 55 1) = some (qvl σ w z (0 + 1), α1) := a1
  have z2 : fn_X9_pass β1 (β1.1 55 2) = some (qvl σ w z (0 + 1 + 1), α2) := a2
  have z3 : fn_X9_pass β2 (β2.1 55 3) = some (qvl σ w z (0 + 1 + 1 + 1), α3) := a3
  have z4 : fn_X9_pass β3 (β3.1 55 11) = some (qvl σ w z (0 + 1 + 1 + 1 + 1), α4) := a4
  have y0 : dc_wI α0 55 0 (qvl σ w z 0) = β0 := hβ0
  have y1 : dc_wI α1 55 1 (qvl σ w z (0 + 1)) = β1 := hβ1
  have y2 : dc_wI α2 55 2 (qvl σ w z (0 + 1 + 1)) = β2 := hβ2
  have y3 : dc_wI α3 55 3 (qvl σ w z (0 + 1 + 1 + 1)) = β3 := hβ3
  have y4 : dc_wI α4 55 11 (qvl σ w z (0 + 1 + 1 + 1 + 1)) = β4 := hβ4
  obtain ⟨γ5, c5, d5⟩ := pm_row hz (q := 56) (m := 8) (base := 5) (by decide) (by decide) (by decide) (by decide) b4
  obtain ⟨γ6, c6, d6⟩ := pm_row hz (q := 57) (m := 8) (base := 13) (by decide) (by decide) (by decide) (by decide) d5
  obtain ⟨γ7, c7, d7⟩ := pm_row hz (q := 58) (m := 24) (base := 21) (by decide) (by decide) (by decide) (by decide) d6
  obtain ⟨γ8, c8, d8⟩ := pm_row hz (q := 59) (m := 6) (base := 45) (by decide) (by decide) (by decide) (by decide) d7
  obtain ⟨γ9, c9, d9⟩ := pm_row hz (q := 60) (m := 6) (base := 51) (by decide) (by decide) (by decide) (by decide) d8
  obtain ⟨γ10, c10, d10⟩ := pm_row hz (q := 61) (m := 8) (base := 57) (by decide) (by decide) (by decide) (by decide) d9
  obtain ⟨γ11, c11, d11⟩ := pm_row hz (q := 62) (m := 8) (base := 65) (by decide) (by decide) (by decide) (by decide) d10
  refine ⟨γ11, ?_, d11⟩
  unfold fn_X9_passAll
  simp only [z0, z1, z2, z3, z4, y0, y1, y2, y3, y4, dc_let, Option.bind_some, c5, c6, c7, c8, c9, c10, c11]
theorem qInv.fw {σ τ : dc_HP} {z : Nat} (h : qInv σ true z 73 τ) {c j : Nat} (q : ¬ (c = 75 ∧ z ≤ j ∧ j < z + 73)) (q2 : ¬ (c = 55 ∧ j = 34)) : τ.1 c j = σ.1 c j := by
  by_cases y : ∃ a, a < 73 ∧ c = (cel a).1 ∧ j = (cel a).2
  · obtain ⟨a, ha, rfl, rfl⟩ := y
    exact (h.1 a ha).1
  · exact h.2.1 c j (fun a ha e => y ⟨a, ha, e⟩) q q2
theorem qInv.fr {σ τ : dc_HP} {z : Nat} (h : qInv σ false z 73 τ) {c j : Nat} (q : ∀ a, a < 73 → ¬ (c = (cel a).1 ∧ j = (cel a).2)) (q2 : ¬ (c = 55 ∧ j = 34)) : τ.1 c j = σ.1 c j := by
  by_cases y : c = 75 ∧ z ≤ j ∧ j < z + 73
  · obtain ⟨rfl, h1, h2⟩ := y
    have := (h.1 (j - z) (by omega)).2
    unfold qvl at this
    rw [if_neg (by decide), show z + (j - z) = j by omega] at this
    exact this
  · exact h.2.1 c j q y q2
