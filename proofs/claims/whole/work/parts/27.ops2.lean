/-! fault, wipe, say, behind -/
theorem op_fault : pOp (fun σ => (fn_X8_fault σ).map (fun r => (r, σ))) fn_X9_fault := by
  intro σ hR
  obtain ⟨G, ho, hc, hm⟩ := hR
  have e := pp_fault hc.2.1 ho.2.1
  obtain ⟨τ, b1, b2, b3⟩ := pm_fault hm.2.1 ho.2.1
  have hRτ : pRL τ := ⟨G, ho, hc.m b1 (fun c j w => by unfold Wf at w; omega), hm.other ho (fun c j u => b1.1 c j (fun w => by unfold Wf at w; unfold Um at u; omega))⟩
  cases hq : qpar G.2.1 61 0 with
  | inl p =>
    rw [hq] at e
    refine ⟨nI p, σ, τ, ?_, (b3 p hq).2, hRτ⟩
    show (fn_X8_fault σ).map _ = _
    unfold fn_X8_fault
    rw [e]; rfl
  | inr L =>
    rw [hq] at e
    refine ⟨(-6 : Int32), σ, τ, ?_, (b2 L hq).1, hRτ⟩
    show (fn_X8_fault σ).map _ = _
    unfold fn_X8_fault
    rw [e]; rfl
theorem pCL.pad {σ τ : dc_HP} {G : pG} (h : pCL σ G) (Q : pPd) (h0 : ∀ c j, Uc c j → ¬ (c = 12 ∨ c = 13) → τ.1 c j = σ.1 c j) (hp : pP τ Q) : pCL τ (G.1, Q, G.2.2) :=
  ⟨h.1.other (fun j _ => h0 1 j (by unfold Uc; omega) (by omega)) (fun c j h1 h2 => h0 (1 + c) j (by unfold Uc; omega) (by omega)),
   hp,
   h.2.2.1.other (h0 7 0 (by unfold Uc; omega) (by omega)) (fun c i h1 h2 => h0 (7 + c) i (by unfold Uc; omega) (by omega)),
   h.2.2.2.1.other (fun c j h1 h2 => h0 c j (by unfold Uc; omega) (by omega)),
   h.2.2.2.2.other (fun c j h1 h2 => h0 c j (by unfold Uc; omega) (by omega))⟩
theorem pML.pad {σ τ : dc_HP} {G : pG} (ho : pGok G) (h : pML σ G) (Q : pPd) (h0 : ∀ c j, Um c j → ¬ (c = 63 ∨ (c = 55 ∧ j = 13)) → τ.1 c j = σ.1 c j) (hp : pQ τ Q) : pML τ (G.1, Q, G.2.2) :=
  ⟨h.1.other (fun j hj => h0 55 j (by unfold Um; omega) (by omega)) (fun c j h1 h2 => h0 c j (by unfold Um; omega) (by omega)),
   hp,
   h.2.2.1.other (h0 55 11 (by unfold Um; omega) (by omega)) (fun c i h1 h2 => h0 c i (by unfold Um; omega) (by omega)),
   h.2.2.2.1.other ho.2.2.2.1 (h0 76 0 (by unfold Um; omega) (by omega)) (fun j _ _ => h0 75 j (by unfold Um; omega) (by omega)),
   h.2.2.2.2.other ho.2.2.2.2 (h0 76 1 (by unfold Um; omega) (by omega)) (fun j _ _ => h0 75 j (by unfold Um; omega) (by omega))⟩
theorem op_wipe : pOp fn_X8_wipe fn_X9_wipe := by
  intro σ hR
  obtain ⟨G, ho, hc, hm⟩ := hR
  generalize hα : dc_wI σ 12 0 (nI 0) = α
  generalize hβ : dc_wI α 55 13 (nI 0) = β
  have a1 : ∀ c j, ¬ (c = 12 ∧ j = 0) → α.1 c j = σ.1 c j := fun c j q => by rw [← hα]; simp [dc_wI, q]
  have a0 : α.1 12 0 = nI 0 := by rw [← hα]; simp [dc_wI]
  have b1 : ∀ c j, ¬ (c = 55 ∧ j = 13) → β.1 c j = α.1 c j := fun c j q => by rw [← hβ]; simp [dc_wI, q]
  have b0 : β.1 55 13 = nI 0 := by rw [← hβ]; simp [dc_wI]
  refine ⟨nI G.2.1.2, α, β, ?_, ?_, (G.1, (G.2.1.1, 0), G.2.2), ⟨ho.1, ⟨Nat.zero_le _, fun i hi => absurd hi (Nat.not_lt_zero i)⟩, ho.2.2⟩, hc.pad _ (fun c j u q => (b1 c j (by unfold Uc at u; omega)).trans (a1 c j (by omega))) ⟨(b1 12 0 (by decide)).trans a0, fun i hi => absurd hi (Nat.not_lt_zero i)⟩, hm.pad ho _ (fun c j u q => (b1 c j (by omega)).trans (a1 c j (by unfold Um at u; omega))) ⟨b0, fun i hi => absurd hi (Nat.not_lt_zero i)⟩⟩
  · simp only [fn_X8_wipe, dc_let, hα]
    rw [hc.2.1.1]
  · simp only [fn_X9_wipe, dc_let, hβ]
    rw [a1 55 13 (by decide), hm.2.1.1]
theorem op_say (x : Int32) : pOp (fun σ => fn_X8_say σ x) (fun σ => fn_X9_say σ x) := by
  intro σ hR
  have hR' := hR
  obtain ⟨G, ho, hc, hm⟩ := hR
  have h60 := ho.2.1.1
  by_cases hx : pr x 33 126
  · have e1 := (px_within (x := x) (lo := 33) (hi := 126) (by decide) (by decide)).1 hx
    have e2 := (px_in (x := x) (lo := 33) (hi := 126) (L := 33) (H := 126) (by decide) (by decide)).1 hx
    obtain ⟨k, hk, rfl⟩ := px_of (x := x) (a := 126) (by decide) (by have := hx.1; omega) hx.2
    have hk3 : 33 ≤ k := by have := hx.1; rw [nI_toInt (by omega)] at this; omega
    simp only [fn_X8_say, fn_X9_say, fn_X4_add, e1, e2, Option.bind_some, hc.2.1.1]
    rw [if_neg (show ¬ nI 1 = 0 by decide), px_withinN (by omega) (by decide) (by decide), Option.bind_some]
    by_cases c : G.2.1.2 = 60
    · refine ⟨(-4 : Int32), σ, σ, ?_, ?_, hR'⟩
      · rw [if_neg (show ¬ (0 ≤ G.2.1.2 ∧ G.2.1.2 ≤ 59) by omega), if_pos nI_0, Option.bind_some]
        exact if_pos nI_0
      · rw [if_neg (show ¬ nI 1 = 0 by decide), hm.2.1.1, if_pos (by rw [c])]
    · generalize hα : dc_wI (dc_wI σ 13 G.2.1.2 (nI k)) 12 0 (nI (G.2.1.2 + 1)) = α
      generalize hβ : dc_wI (dc_wI α 63 G.2.1.2 (nI k)) 55 13 (nI (G.2.1.2 + 1)) = β
      have a1 : ∀ c j, ¬ (c = 12 ∧ j = 0) → ¬ (c = 13 ∧ j = G.2.1.2) → α.1 c j = σ.1 c j := fun c j q1 q2 => by rw [← hα]; simp [dc_wI, q1, q2]
      have a0 : α.1 12 0 = nI (G.2.1.2 + 1) := by rw [← hα]; simp [dc_wI]
      have a2 : α.1 13 G.2.1.2 = nI k := by rw [← hα]; simp [dc_wI]
      have b1 : ∀ c j, ¬ (c = 55 ∧ j = 13) → ¬ (c = 63 ∧ j = G.2.1.2) → β.1 c j = α.1 c j := fun c j q1 q2 => by rw [← hβ]; simp [dc_wI, q1, q2]
      have b0 : β.1 55 13 = nI (G.2.1.2 + 1) := by rw [← hβ]; simp [dc_wI]
      have b2 : β.1 63 G.2.1.2 = nI k := by rw [← hβ]; simp [dc_wI]
      refine ⟨nI (G.2.1.2 + 1), α, β, ?_, ?_, (G.1, (pu G.2.1.1 G.2.1.2 k, G.2.1.2 + 1), G.2.2), ⟨ho.1, ⟨by show G.2.1.2 + 1 ≤ 60; omega, fun i hi => ?_⟩, ho.2.2⟩, hc.pad _ (fun c j u q => (b1 c j (by unfold Uc at u; omega) (by unfold Uc at u; omega)).trans (a1 c j (by omega) (by omega))) ⟨(b1 12 0 (by decide) (by simp)).trans a0, fun i hi => ?_⟩, hm.pad ho _ (fun c j u q => (b1 c j (by omega) (by omega)).trans (a1 c j (by unfold Um at u; omega) (by unfold Um at u; omega))) ⟨b0, fun i hi => ?_⟩⟩
      · rw [if_pos (show 0 ≤ G.2.1.2 ∧ G.2.1.2 ≤ 59 by omega), if_neg (show ¬ nI 1 = 0 by decide), px_gg (by omega) (by decide), nI_clamp (by omega)]
        simp only [dc_let]
        have e : (dc_wI σ 13 G.2.1.2 (nI k)).1 12 0 = nI G.2.1.2 := by have := hc.2.1.1; simpa [dc_wI] using this
        rw [e, nI_add, hα, Option.bind_some]
        dsimp only
        rw [if_neg (show ¬ nI 1 = 0 by decide), a0]
      · rw [if_neg (show ¬ nI 1 = 0 by decide), a1 55 13 (by decide) (by simp), hm.2.1.1, if_neg (fun q => c ((nI_eq (by omega) (by decide)).mp q)), px_gg (by omega) (by decide), nI_clamp (by omega)]
        simp only [dc_let]
        have e : (dc_wI α 63 G.2.1.2 (nI k)).1 55 13 = nI G.2.1.2 := by have := (a1 55 13 (by decide) (by simp)).trans hm.2.1.1; simpa [dc_wI] using this
        rw [e, nI_add, hβ, b0]
      · show 33 ≤ pu G.2.1.1 G.2.1.2 k i ∧ pu G.2.1.1 G.2.1.2 k i ≤ 126
        by_cases ei : i = G.2.1.2
        · subst ei; rw [pu_s]; omega
        · rw [pu_n _ _ ei]; exact ho.2.1.2 i (by have : i < G.2.1.2 + 1 := hi; omega)
      · show β.1 13 i = nI (pu G.2.1.1 G.2.1.2 k i)
        by_cases ei : i = G.2.1.2
        · subst ei; rw [pu_s, b1 13 _ (by omega) (by omega)]; exact a2
        · rw [pu_n _ _ ei, b1 13 i (by omega) (by omega), a1 13 i (by omega) (by omega)]; exact hc.2.1.2 i (by have : i < G.2.1.2 + 1 := hi; omega)
      · show β.1 63 i = nI (pu G.2.1.1 G.2.1.2 k i)
        by_cases ei : i = G.2.1.2
        · subst ei; rw [pu_s]; exact b2
        · rw [pu_n _ _ ei, b1 63 i (by omega) (by omega), a1 63 i (by omega) (by omega)]; exact hm.2.1.2 i (by have : i < G.2.1.2 + 1 := hi; omega)
  · refine ⟨(-2 : Int32), σ, σ, ?_, ?_, hR'⟩
    · simp only [fn_X8_say, (px_within (x := x) (lo := 33) (hi := 126) (by decide) (by decide)).2 hx, Option.bind_some]
      rw [if_pos nI_0]
    · simp only [fn_X9_say, (px_in (x := x) (lo := 33) (hi := 126) (L := 33) (H := 126) (by decide) (by decide)).2 hx, Option.bind_some]
      rw [if_pos nI_0]
