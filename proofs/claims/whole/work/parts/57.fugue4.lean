def pOpL (f g : dc_HP → Option (Int64 × dc_HP)) : Prop := ∀ σ, pRL σ → ∃ r σ1 σ2, f σ = some (r, σ1) ∧ g σ1 = some (r, σ2) ∧ pRL σ2
theorem pOpL.rd {r : Int64} {f g : dc_HP → Option (Int64 × dc_HP)} {σ : dc_HP} (h : pRL σ) (h1 : f σ = some (r, σ)) (h2 : g σ = some (r, σ)) : ∃ r σ1 σ2, f σ = some (r, σ1) ∧ g σ1 = some (r, σ2) ∧ pRL σ2 := ⟨r, σ, σ, h1, h2, h⟩
theorem op_fugue (x1 x2 x3 x4 x5 x6 x7 : Int32) : pOpL (fun σ => fn_X8_fugue σ x1 x2 x3 x4 x5 x6 x7) (fun σ => fn_X9_fugue σ x1 x2 x3 x4 x5 x6 x7) := by
  intro σ hR
  obtain ⟨G, ho, hc, hm⟩ := id hR
  have n1 : ¬ nI 1 = 0 := by decide
  have z0 : nI 0 = 0 := nI_0
  by_cases h1 : pr x1 0 9
  · have E1 := (px_within (x := x1) (lo := 0) (hi := 9) (by decide) (by decide)).1 h1
    have F1 := (px_in (x := x1) (lo := 0) (hi := 9) (L := 0) (H := 9) (by decide) (by decide)).1 h1
    by_cases h2 : pr x2 0 8
    · have E2 := (px_within (x := x2) (lo := 0) (hi := 8) (by decide) (by decide)).1 h2
      have F2 := (px_in (x := x2) (lo := 0) (hi := 8) (L := 0) (H := 8) (by decide) (by decide)).1 h2
      by_cases h3 : pr x3 0 10
      · have E3 := (px_within (x := x3) (lo := 0) (hi := 10) (by decide) (by decide)).1 h3
        have F3 := (px_in (x := x3) (lo := 0) (hi := 10) (L := 0) (H := 10) (by decide) (by decide)).1 h3
        by_cases h4 : pr x4 0 9
        · have E4 := (px_within (x := x4) (lo := 0) (hi := 9) (by decide) (by decide)).1 h4
          have F4 := (px_in (x := x4) (lo := 0) (hi := 9) (L := 0) (H := 9) (by decide) (by decide)).1 h4
          by_cases h5 : pr x5 0 9
          · have E5 := (px_within (x := x5) (lo := 0) (hi := 9) (by decide) (by decide)).1 h5
            have F5 := (px_in (x := x5) (lo := 0) (hi := 9) (L := 0) (H := 9) (by decide) (by decide)).1 h5
            by_cases h6 : pr x6 0 1
            · have E6 := (px_within (x := x6) (lo := 0) (hi := 1) (by decide) (by decide)).1 h6
              have F6 := (px_in (x := x6) (lo := 0) (hi := 1) (L := 0) (H := 1) (by decide) (by decide)).1 h6
              by_cases h7 : pr x7 0 1
              · have E7 := (px_within (x := x7) (lo := 0) (hi := 1) (by decide) (by decide)).1 h7
                have F7 := (px_in (x := x7) (lo := 0) (hi := 1) (L := 0) (H := 1) (by decide) (by decide)).1 h7
                obtain ⟨dd, hd, rfl⟩ := pr_of (by decide) h1
                obtain ⟨mm, hmm, rfl⟩ := pr_of (by decide) h2
                obtain ⟨t, ht, rfl⟩ := pr_of (by decide) h3
                obtain ⟨g, hg, rfl⟩ := pr_of (by decide) h4
                obtain ⟨c, hcc, rfl⟩ := pr_of (by decide) h5
                obtain ⟨α, a1, a2, a3⟩ := pc_fstart (σ := σ) (c := c) (t := t) (g := g)
                obtain ⟨β, b1, b2, b3⟩ := pl_f88 (c := c) (g := g) ht hmm (nI dd) x6 x7 mm 0 200 α (by omega) (by omega) a3
                obtain ⟨q1, q2, bb, q3, q4, q5⟩ := b3
                have fr : ∀ c j, ¬ (c = 28 ∧ j = 1) → β.1 c j = σ.1 c j := fun c j h => (b2 c j h).trans (a2 c j h)
                have hcβ : pCL β G := hc.other (fun c j u => fr c j (by unfold Uc at u; omega))
                have hmβ : pML β G := hm.other ho (fun c j u => fr c j (by unfold Um at u; omega))
                obtain ⟨γ, c1, c2, c3⟩ := pl_g43 (c := c) (nI dd) (nI mm) (nI t) (nI g) x6 x7 10 0 200 β rfl (by decide) (fun j hj => absurd hj (Nat.not_lt_zero _))
                obtain ⟨δ, d1, d2, d3⟩ := pl_g79 (c := c) (g := g) ht hmm hd x6 x7 mm 0 200 γ (by omega) (by omega) c3
                rw [show qun 0 = (1 : Int64) from rfl, show nI (if qfb c t g 0 dd = true then 1 else 0) = nI 0 from rfl] at d1
                have e1 : δ.1 = β.1 := d2.trans c2
                have hcδ : pCL δ G := hcβ.other (fun c j u => by rw [e1])
                have hmδ : pML δ G := hmβ.other ho (fun c j u => by rw [e1])
                have bt := px_bits (b := bb) (k := dd) q4 (by omega)
                rw [q5 dd (by omega)] at bt
                have bd := qfw_b hcc ht hg mm hmm dd hd
                have cl := qCe_le mm (by omega)
                obtain ⟨g1, g2, g3⟩ := pb_div (U := qfw c t g mm dd) hmm (by omega) (by omega)
                have bo : fn_X1_bestOf β (nI dd) = some (qfw c t g mm dd) := by rw [pc_best (by omega), q1 dd (by omega)]
                by_cases c6 : x6 = nI 1
                · refine ⟨(nI (if qfb c t g mm dd = true then 1 else 0)).toInt64, β, δ, ?_, ?_, G, ho, hcδ, hmδ⟩
                  · simp only [fn_X8_fugue, E1, E2, E3, E4, E5, E6, E7, Option.bind_some, n1, if_false, a1, b1]
                    rw [if_pos c6, q3, bt, Option.bind_some]
                  · simp only [fn_X9_fugue, fn_X9_fugueGood, F1, F2, F3, F4, F5, F6, F7, Option.bind_some, n1, if_false, c1, d1]
                    rw [if_pos c6, pb_1]
                    split <;> rfl
                · refine ⟨if x7 = 0 then qfw c t g mm dd / qL (Nat.gcd (qfw c t g mm dd).toInt.natAbs (10 ^ mm)) else qun mm / qL (Nat.gcd (qfw c t g mm dd).toInt.natAbs (10 ^ mm)), β, δ, ?_, ?_, G, ho, hcδ, hmδ⟩
                  · simp only [fn_X8_fugue, E1, E2, E3, E4, E5, E6, E7, Option.bind_some, n1, if_false, a1, b1]
                    rw [if_neg c6, bo, Option.bind_some, q2, g1, Option.bind_some, if_neg g3, if_neg g3]
                    split <;> rfl
                  · simp only [fn_X9_fugue, fn_X9_fugueGood, F1, F2, F3, F4, F5, F6, F7, Option.bind_some, n1, if_false, c1, d1]
                    rw [if_neg c6, px_gg (by omega) (by decide), nI_clamp (by omega), d3 dd (by omega), g2]
                    split <;> rfl
              · refine ⟨(-1000000000000000002 : Int64), σ, σ, ?_, ?_, hR⟩
                · simp only [fn_X8_fugue, E1, E2, E3, E4, E5, E6, (px_within (x := x7) (lo := 0) (hi := 1) (by decide) (by decide)).2 h7, Option.bind_some, n1, if_false]
                  rw [if_pos z0]
                · simp only [fn_X9_fugue, fn_X9_fugueGood, F1, F2, F3, F4, F5, F6, (px_in (x := x7) (lo := 0) (hi := 1) (L := 0) (H := 1) (by decide) (by decide)).2 h7, Option.bind_some, n1, if_false]
                  rw [if_pos z0]
            · refine ⟨(-1000000000000000002 : Int64), σ, σ, ?_, ?_, hR⟩
              · simp only [fn_X8_fugue, E1, E2, E3, E4, E5, (px_within (x := x6) (lo := 0) (hi := 1) (by decide) (by decide)).2 h6, Option.bind_some, n1, if_false]
                rw [if_pos z0]
              · simp only [fn_X9_fugue, fn_X9_fugueGood, F1, F2, F3, F4, F5, (px_in (x := x6) (lo := 0) (hi := 1) (L := 0) (H := 1) (by decide) (by decide)).2 h6, Option.bind_some, n1, if_false]
                rw [if_pos z0]
          · refine ⟨(-1000000000000000002 : Int64), σ, σ, ?_, ?_, hR⟩
            · simp only [fn_X8_fugue, E1, E2, E3, E4, (px_within (x := x5) (lo := 0) (hi := 9) (by decide) (by decide)).2 h5, Option.bind_some, n1, if_false]
              rw [if_pos z0]
            · simp only [fn_X9_fugue, fn_X9_fugueGood, F1, F2, F3, F4, (px_in (x := x5) (lo := 0) (hi := 9) (L := 0) (H := 9) (by decide) (by decide)).2 h5, Option.bind_some, n1, if_false]
              simp only [z0, if_true, Option.bind_some]
        · refine ⟨(-1000000000000000002 : Int64), σ, σ, ?_, ?_, hR⟩
          · simp only [fn_X8_fugue, E1, E2, E3, (px_within (x := x4) (lo := 0) (hi := 9) (by decide) (by decide)).2 h4, Option.bind_some, n1, if_false]
            rw [if_pos z0]
          · simp only [fn_X9_fugue, fn_X9_fugueGood, F1, F2, F3, (px_in (x := x4) (lo := 0) (hi := 9) (L := 0) (H := 9) (by decide) (by decide)).2 h4, Option.bind_some, n1, if_false]
            simp only [z0, if_true, Option.bind_some]
      · refine ⟨(-1000000000000000002 : Int64), σ, σ, ?_, ?_, hR⟩
        · simp only [fn_X8_fugue, E1, E2, (px_within (x := x3) (lo := 0) (hi := 10) (by decide) (by decide)).2 h3, Option.bind_some, n1, if_false]
          rw [if_pos z0]
        · simp only [fn_X9_fugue, fn_X9_fugueGood, F1, F2, (px_in (x := x3) (lo := 0) (hi := 10) (L := 0) (H := 10) (by decide) (by decide)).2 h3, Option.bind_some, n1, if_false]
          simp only [z0, if_true, Option.bind_some]
    · refine ⟨(-1000000000000000002 : Int64), σ, σ, ?_, ?_, hR⟩
      · simp only [fn_X8_fugue, E1, (px_within (x := x2) (lo := 0) (hi := 8) (by decide) (by decide)).2 h2, Option.bind_some, n1, if_false]
        rw [if_pos z0]
      · simp only [fn_X9_fugue, fn_X9_fugueGood, F1, (px_in (x := x2) (lo := 0) (hi := 8) (L := 0) (H := 8) (by decide) (by decide)).2 h2, Option.bind_some, n1, if_false]
        simp only [z0, if_true, Option.bind_some]
  · refine ⟨(-1000000000000000002 : Int64), σ, σ, ?_, ?_, hR⟩
    · simp only [fn_X8_fugue, (px_within (x := x1) (lo := 0) (hi := 9) (by decide) (by decide)).2 h1, Option.bind_some, n1, if_false]
      rw [if_pos z0]
    · simp only [fn_X9_fugue, fn_X9_fugueGood, (px_in (x := x1) (lo := 0) (hi := 9) (L := 0) (H := 9) (by decide) (by decide)).2 h1, Option.bind_some, n1, if_false]
      simp only [z0, if_true, Option.bind_some]
