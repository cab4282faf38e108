/-! seen, forget -/
theorem pCL.sights {σ τ : dc_HP} {G : pG} (h : pCL σ G) (S : pSg) (h0 : ∀ c j, Uc c j → ¬ (7 ≤ c ∧ c ≤ 9) → τ.1 c j = σ.1 c j) (hp : pSC τ 7 S) : pCL τ (G.1, G.2.1, S, G.2.2.2) :=
  ⟨h.1.other (fun j _ => h0 1 j (by unfold Uc; omega) (by omega)) (fun c j h1 h2 => h0 (1 + c) j (by unfold Uc; omega) (by omega)),
   h.2.1.other (h0 12 0 (by unfold Uc; omega) (by omega)) (fun i _ => h0 13 i (by unfold Uc; omega) (by omega)),
   hp,
   h.2.2.2.1.other (fun c j h1 h2 => h0 c j (by unfold Uc; omega) (by omega)),
   h.2.2.2.2.other (fun c j h1 h2 => h0 c j (by unfold Uc; omega) (by omega))⟩
theorem pML.sights {σ τ : dc_HP} {G : pG} (ho : pGok G) (h : pML σ G) (S : pSg) (h0 : ∀ c j, Um c j → ¬ (c = 61 ∨ c = 62 ∨ (c = 55 ∧ j = 11)) → τ.1 c j = σ.1 c j) (hp : pSM τ S) : pML τ (G.1, G.2.1, S, G.2.2.2) :=
  ⟨h.1.other (fun j hj => h0 55 j (by unfold Um; omega) (by omega)) (fun c j h1 h2 => h0 c j (by unfold Um; omega) (by omega)),
   h.2.1.other (h0 55 13 (by unfold Um; omega) (by omega)) (fun i _ => h0 63 i (by unfold Um; omega) (by omega)),
   hp,
   h.2.2.2.1.other ho.2.2.2.1 (h0 76 0 (by unfold Um; omega) (by omega)) (fun j _ _ => h0 75 j (by unfold Um; omega) (by omega)),
   h.2.2.2.2.other ho.2.2.2.2 (h0 76 1 (by unfold Um; omega) (by omega)) (fun j _ _ => h0 75 j (by unfold Um; omega) (by omega))⟩
theorem op_forget : pOp fn_X8_forget fn_X9_forget := by
  intro σ hR
  obtain ⟨G, ho, hc, hm⟩ := hR
  generalize hα : dc_wI σ 7 0 (nI 0) = α
  generalize hβ : dc_wI α 55 11 (nI 0) = β
  have a1 : ∀ c j, ¬ (c = 7 ∧ j = 0) → α.1 c j = σ.1 c j := fun c j q => by rw [← hα]; simp [dc_wI, q]
  have a0 : α.1 7 0 = nI 0 := by rw [← hα]; simp [dc_wI]
  have b1 : ∀ c j, ¬ (c = 55 ∧ j = 11) → β.1 c j = α.1 c j := fun c j q => by rw [← hβ]; simp [dc_wI, q]
  have b0 : β.1 55 11 = nI 0 := by rw [← hβ]; simp [dc_wI]
  refine ⟨nI G.2.2.1.2.2, α, β, ?_, ?_, (G.1, G.2.1, (G.2.2.1.1, G.2.2.1.2.1, 0), G.2.2.2), ⟨ho.1, ho.2.1, ⟨Nat.zero_le _, fun i hi => absurd hi (Nat.not_lt_zero i)⟩, ho.2.2.2⟩, hc.sights _ (fun c j u q => (b1 c j (by unfold Uc at u; omega)).trans (a1 c j (by omega))) ⟨(b1 7 0 (by decide)).trans a0, fun i hi => absurd hi (Nat.not_lt_zero i)⟩, hm.sights ho _ (fun c j u q => (b1 c j (by omega)).trans (a1 c j (by unfold Um at u; omega))) ⟨b0, fun i hi => absurd hi (Nat.not_lt_zero i)⟩⟩
  · simp only [fn_X8_forget, dc_let, hα]
    rw [hc.2.2.1.1]
  · simp only [fn_X9_forget, dc_let, hβ]
    rw [a1 55 11 (by decide), hm.2.2.1.1]
theorem op_seen (x y : Int32) : pOp (fun σ => fn_X8_seen σ x y) (fun σ => fn_X9_seen σ x y) := by
  intro σ hR
  have hR' := hR
  obtain ⟨⟨V, P, ⟨f, g, n⟩, I⟩, ho, hc, hm⟩ := hR
  have n1 : ¬ nI 1 = 0 := by decide
  have h8 : n ≤ 8 := ho.2.2.1.1
  have hs := ho.2.2.1.2
  by_cases hx : pr x 1 9
  · have ex := (px_within (x := x) (lo := 1) (hi := 9) (by decide) (by decide)).1 hx
    have fx := (px_in (x := x) (lo := 1) (hi := 9) (L := 1) (H := 9) (by decide) (by decide)).1 hx
    by_cases hy : pr y 0 18
    · have ey := (px_within (x := y) (lo := 0) (hi := 18) (by decide) (by decide)).1 hy
      have fy := (px_in (x := y) (lo := 0) (hi := 18) (L := 0) (H := 18) (by decide) (by decide)).1 hy
      obtain ⟨a, ha, rfl⟩ := px_of (x := x) (a := 9) (by decide) (by have := hx.1; omega) hx.2
      have ha1 : 1 ≤ a := by have := hx.1; rw [nI_toInt (by omega)] at this; omega
      obtain ⟨d, hd, rfl⟩ := pr_of (by decide) hy
      have c7 : σ.1 7 0 = nI n := hc.2.2.1.1
      have m11 : σ.1 55 11 = nI n := hm.2.2.1.1
      by_cases c : n = 8
      · subst c
        refine ⟨(-4 : Int32), σ, σ, ?_, ?_, hR'⟩
        · simp only [fn_X8_seen, fn_X6_add, ex, ey, Option.bind_some, n1, if_false, c7, px_withinN (show 8 < 2 ^ 31 by decide) (show 0 < 2 ^ 31 by decide) (show 7 < 2 ^ 31 by decide)]
          rfl
        · simp only [fn_X9_seen, fx, fy, Option.bind_some, n1, if_false, m11]
          exact if_pos trivial
      · have hn : n < 8 := by omega
        generalize hα : dc_wI (dc_wI (dc_wI σ 8 n (nI a)) 9 n (nI d)) 7 0 (nI (n + 1)) = α
        generalize hβ : dc_wI (dc_wI (dc_wI α 61 n (nI a)) 62 n (nI d)) 55 11 (nI (n + 1)) = β
        have a1 : ∀ c j, ¬ (c = 7 ∧ j = 0) → ¬ ((c = 8 ∨ c = 9) ∧ j = n) → α.1 c j = σ.1 c j := fun c j q1 q2 => by
          have z8 : ¬ (c = 8 ∧ j = n) := fun z => q2 ⟨Or.inl z.1, z.2⟩
          have z9 : ¬ (c = 9 ∧ j = n) := fun z => q2 ⟨Or.inr z.1, z.2⟩
          rw [← hα]; simp [dc_wI, q1, z8, z9]
        have a0 : α.1 7 0 = nI (n + 1) := by rw [← hα]; simp [dc_wI]
        have a8 : α.1 8 n = nI a := by rw [← hα]; simp [dc_wI]
        have a9 : α.1 9 n = nI d := by rw [← hα]; simp [dc_wI]
        have b1 : ∀ c j, ¬ (c = 55 ∧ j = 11) → ¬ ((c = 61 ∨ c = 62) ∧ j = n) → β.1 c j = α.1 c j := fun c j q1 q2 => by
          have z8 : ¬ (c = 61 ∧ j = n) := fun z => q2 ⟨Or.inl z.1, z.2⟩
          have z9 : ¬ (c = 62 ∧ j = n) := fun z => q2 ⟨Or.inr z.1, z.2⟩
          rw [← hβ]; simp [dc_wI, q1, z8, z9]
        have b0 : β.1 55 11 = nI (n + 1) := by rw [← hβ]; simp [dc_wI]
        have b8 : β.1 61 n = nI a := by rw [← hβ]; simp [dc_wI]
        have b9 : β.1 62 n = nI d := by rw [← hβ]; simp [dc_wI]
        refine ⟨nI (n + 1), α, β, ?_, ?_, (V, P, (pu f n a, pu g n d, n + 1), I), ⟨ho.1, ho.2.1, ⟨by show n + 1 ≤ 8; omega, fun i hi => ?_⟩, ho.2.2.2⟩, hc.sights _ (fun c j u q => (b1 c j (by unfold Uc at u; omega) (by unfold Uc at u; omega)).trans (a1 c j (by omega) (by omega))) ⟨(b1 7 0 (by decide) (by omega)).trans a0, fun i hi => ?_⟩, hm.sights ho _ (fun c j u q => (b1 c j (by omega) (by omega)).trans (a1 c j (by unfold Um at u; omega) (by unfold Um at u; omega))) ⟨b0, fun i hi => ?_⟩⟩
        · have e1 : (dc_wI σ 8 n (nI a)).1 7 0 = nI n := by simpa [dc_wI] using c7
          have e2 : (dc_wI (dc_wI σ 8 n (nI a)) 9 n (nI d)).1 7 0 = nI n := by simpa [dc_wI] using c7
          simp only [fn_X8_seen, fn_X6_add, ex, ey, Option.bind_some, n1, if_false, c7]
          rw [px_withinN (show n < 2 ^ 31 by omega) (by decide) (by decide), if_pos (show 0 ≤ n ∧ n ≤ 7 by omega), Option.bind_some, if_neg n1, px_gg hn (by decide), nI_clamp (by omega)]
          simp only [dc_let, Nat.reduceAdd, e1]
          rw [px_gg hn (by decide), nI_clamp (by omega), e2, nI_add, hα, Option.bind_some]
          dsimp only
          rw [if_neg n1, a0]
        · have g0 : α.1 55 11 = nI n := (a1 55 11 (by decide) (by omega)).trans m11
          have e1 : (dc_wI α 61 n (nI a)).1 55 11 = nI n := by simpa [dc_wI] using g0
          have e2 : (dc_wI (dc_wI α 61 n (nI a)) 62 n (nI d)).1 55 11 = nI n := by simpa [dc_wI] using g0
          simp only [fn_X9_seen, fx, fy, Option.bind_some, n1, if_false, g0]
          rw [if_neg (fun q => c ((nI_eq (by omega) (by decide)).mp q)), px_gg hn (by decide), nI_clamp (by omega)]
          simp only [dc_let, e1]
          rw [px_gg hn (by decide), nI_clamp (by omega), e2, nI_add, hβ, b0]
        · show 1 ≤ pu f n a i ∧ pu f n a i ≤ 9 ∧ pu g n d i ≤ 18
          by_cases e : i = n
          · subst e; rw [pu_s, pu_s]; omega
          · rw [pu_n _ _ e, pu_n _ _ e]; exact hs i (by have : i < n + 1 := hi; show i < n; omega)
        · show β.1 8 i = nI (pu f n a i) ∧ β.1 9 i = nI (pu g n d i)
          rw [b1 8 i (by omega) (by omega), b1 9 i (by omega) (by omega)]
          by_cases e : i = n
          · subst e; rw [pu_s, pu_s]; exact ⟨a8, a9⟩
          · rw [pu_n _ _ e, pu_n _ _ e, a1 8 i (by omega) (by omega), a1 9 i (by omega) (by omega)]
            exact hc.2.2.1.2 i (by have : i < n + 1 := hi; show i < n; omega)
        · show β.1 61 i = nI (pu f n a i) ∧ β.1 62 i = nI (pu g n d i)
          by_cases e : i = n
          · subst e; rw [pu_s, pu_s]; exact ⟨b8, b9⟩
          · rw [pu_n _ _ e, pu_n _ _ e, b1 61 i (by omega) (by omega), b1 62 i (by omega) (by omega), a1 61 i (by omega) (by omega), a1 62 i (by omega) (by omega)]
            exact hm.2.2.1.2 i (by have : i < n + 1 := hi; show i < n; omega)
    · refine ⟨(-2 : Int32), σ, σ, ?_, ?_, hR'⟩
      · simp only [fn_X8_seen, ex, (px_within (x := y) (lo := 0) (hi := 18) (by decide) (by decide)).2 hy, Option.bind_some, n1, if_false]
        rw [if_pos nI_0]
      · simp only [fn_X9_seen, fx, (px_in (x := y) (lo := 0) (hi := 18) (L := 0) (H := 18) (by decide) (by decide)).2 hy, Option.bind_some, n1, if_false]
        rw [if_pos nI_0]
  · refine ⟨(-2 : Int32), σ, σ, ?_, ?_, hR'⟩
    · simp only [fn_X8_seen, (px_within (x := x) (lo := 1) (hi := 9) (by decide) (by decide)).2 hx, Option.bind_some]
      rw [if_pos nI_0]
    · simp only [fn_X9_seen, (px_in (x := x) (lo := 1) (hi := 9) (L := 1) (H := 9) (by decide) (by decide)).2 hx, Option.bind_some]
      rw [if_pos nI_0]
