/-! behind -/
theorem px_ifs {α : Type} {x y : α} {b : Bool} : (if nI (if b = true then 1 else 0) = 0 then x else y) = (if b = true then y else x) := by
  cases b <;> simp [px_eq0]
theorem op_behind (x y : Int32) : pOp (fun σ => fn_X8_behind σ x y) (fun σ => fn_X9_behind σ x y) := by
  intro σ hR
  have hR' := hR
  obtain ⟨G, ho, hc, hm⟩ := hR
  by_cases hx : pr x 0 7
  · obtain ⟨a, ha, rfl⟩ := pr_of (by decide) hx
    have ha8 : a < 8 := by omega
    cases ht : pth G.1 a with
    | false =>
      refine ⟨(-1 : Int32), σ, σ, ?_, ?_, hR'⟩
      · simp only [fn_X8_behind, pc_has hc.1 ha8, ht, Option.bind_some]
        exact if_pos (by decide)
      · simp only [fn_X9_behind, pm_is hm.1 ha8, ht, Option.bind_some]
        exact if_pos (by decide)
    | true =>
      have i1 : fn_X0_has σ 1 (nI a) = some (nI 1) := by rw [pc_has hc.1 ha8, ht]; rfl
      have i2 : ∀ τ, pML τ G → fn_X9_isSinger τ (nI a) = some (nI 1) := fun τ h => by rw [pm_is h.1 ha8, ht]; rfl
      have n1 : ¬ nI 1 = 0 := by decide
      by_cases hy : pr y 0 2
      · obtain ⟨α, β, a1, a2, a3, a4, a5, h⟩ := pb_run ho hc hm
        have e1 := (px_within (x := y) (lo := 0) (hi := 2) (by decide) (by decide)).1 hy
        have e2 := (px_in (x := y) (lo := 0) (hi := 2) (L := 0) (H := 2) (by decide) (by decide)).1 hy
        obtain ⟨k, hk, rfl⟩ := pr_of (by decide) hy
        -- what the reference reads, before it goes back
        obtain ⟨q, hq⟩ : ∃ q : Int32, ∀ s : dc_HP, s = β → (if nI k = 0 then if nI a < 0 ∨ 8 ≤ (nI a).toNatClampNeg then none else some (s.1 57 (nI a).toNatClampNeg) else ((if nI k = nI 1 then some (s.1 55 1) else some (s.1 55 2)).bind (fun q45 => some ((q45 >>> (nI a &&& 31)) &&& nI 1)))) = some q := by
          rcases (show k = 0 ∨ k = 1 ∨ k = 2 by omega) with rfl | rfl | rfl
          · exact ⟨_, fun s e => by rw [if_pos nI_0, px_gg ha8 (by decide), e]⟩
          · exact ⟨_, fun s e => by rw [if_neg n1, if_pos rfl, Option.bind_some, e]⟩
          · exact ⟨_, fun s e => by rw [if_neg (show ¬ nI 2 = 0 by decide), if_neg (show ¬ nI 2 = nI 1 by decide), Option.bind_some, e]⟩
        have hq' := hq β rfl
        have g1 : ∀ z : Int32, z ≠ 0 → fn_X7_play σ 1 = some (z, α) → fn_X8_behind σ (nI a) (nI k) = some (z, α) := by
          intro z hz hp
          simp only [fn_X8_behind, i1, e1, hp, Option.bind_some, n1, if_false]
          exact if_neg hz
        have g2 : ∀ z υ, fn_X9_refusal α = some (z, β) → fn_X9_back β (if z = (-6 : Int32) then q else z) = some (if z = (-6 : Int32) then q else z, υ) → fn_X9_behind α (nI a) (nI k) = some (if z = (-6 : Int32) then q else z, υ) := by
          intro z υ hz hu
          simp only [fn_X9_behind, i2 α a3, e2, hz, Option.bind_some, n1, if_false]
          rw [hq', Option.bind_some]
          have : (if z = (-6 : Int32) then some q else some z) = some (if z = (-6 : Int32) then q else z) := by split <;> rfl
          rw [this, Option.bind_some, hu, Option.bind_some]
        rcases h with ⟨p1, p2⟩ | ⟨n, w, p1, p2, p3, p4, p5, p6⟩ | ⟨r, n, p0, p1, p2, p3, p3t, p5, p6, p7, p8, p9⟩
        · obtain ⟨υ, u1, u2, u3⟩ := pb_back ho a2 a3 a4 (-5 : Int32)
          exact ⟨_, α, υ, g1 _ (by decide) p1, g2 _ υ p2 (by rw [if_neg (by decide)]; exact u1), u2⟩
        · obtain ⟨υ, u1, u2, u3⟩ := pb_back ho a2 a3 a4 (-3 : Int32)
          exact ⟨_, α, υ, g1 _ (by decide) p1, g2 _ υ p4 (by rw [if_neg (by decide)]; exact u1), u2⟩
        · obtain ⟨υ, u1, u2, u3⟩ := pb_back ho a2 a3 a4 q
          refine ⟨q, α, υ, ?_, ?_, u2⟩
          · simp only [fn_X8_behind, i1, e1, p1, Option.bind_some, n1, if_false]
            rw [if_pos (show nI 0 = 0 from nI_0)]
            have ht2 : pth r.1.1 a = true := by rw [p3t]; exact ht
            obtain ⟨hmm, smm, h0, h1, h2, h3, h4, h5, h6, h7⟩ := p6.1.1
            obtain ⟨z1, z2, z3, z4⟩ := h4 a ha8 ht2
            rcases (show k = 0 ∨ k = 1 ∨ k = 2 by omega) with rfl | rfl | rfl
            · rw [if_pos nI_0, px_gg ha8 (by decide), nI_clamp (by omega), z4] at hq'
              rw [if_pos nI_0, pc_debtOf p2.1.1 p3 ha8, Option.bind_some]
              cases hq'
              rfl
            · rw [if_neg n1, if_pos rfl, Option.bind_some, h1, px_pmbit _ (by decide) ha8, z1] at hq'
              rw [if_neg n1, if_pos rfl, Option.bind_some, p2.1.1.2.1, fn_X8_bit, px_pmbit _ (by decide) ha8, Option.bind_some]
              cases hq'
              rfl
            · rw [if_neg (show ¬ nI 2 = 0 by decide), if_neg (show ¬ nI 2 = nI 1 by decide), Option.bind_some, h2, px_pmbit _ (by decide) ha8, z2] at hq'
              rw [if_neg (show ¬ nI 2 = 0 by decide), if_neg (show ¬ nI 2 = nI 1 by decide), Option.bind_some, p2.1.1.2.2.1, fn_X8_bit, px_pmbit _ (by decide) ha8, Option.bind_some]
              cases hq'
              rfl
          · have := g2 _ υ p5 (by rw [if_pos rfl]; exact u1)
            rw [if_pos rfl] at this
            exact this
      · refine ⟨(-2 : Int32), σ, σ, ?_, ?_, hR'⟩
        · simp only [fn_X8_behind, i1, (px_within (x := y) (lo := 0) (hi := 2) (by decide) (by decide)).2 hy, Option.bind_some, n1, if_false]
          rw [if_pos nI_0]
        · simp only [fn_X9_behind, i2 σ hm, (px_in (x := y) (lo := 0) (hi := 2) (L := 0) (H := 2) (by decide) (by decide)).2 hy, Option.bind_some, n1, if_false]
          rw [if_pos nI_0]
  · refine ⟨(-1 : Int32), σ, σ, ?_, ?_, hR'⟩
    · simp only [fn_X8_behind, pc_hasN hx, Option.bind_some]
      rw [if_pos nI_0]
    · simp only [fn_X9_behind, pm_isN hx, Option.bind_some]
      rw [if_pos nI_0]
