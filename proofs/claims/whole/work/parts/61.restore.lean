/-! restore -/
theorem pm_restore {α : dc_HP} {G : pG} {k : Nat} {y : pV × pSg} (ho : pGok G) (hα : pML α G) (hk : k ≤ 1) (hI : pIM α k (some y)) (hok : pOk y.1 ∧ pSok y.2) : ∃ τ, fn_X9_restore α (nI k) = some (nI 1, τ) ∧ (∀ c j, c < 55 → τ.1 c j = α.1 c j) ∧ pM τ y.1 ∧ pQ τ G.2.1 ∧ pSM τ y.2 ∧ pIM τ 0 G.2.2.2.1 ∧ pIM τ 1 G.2.2.2.2 := by
  have f1 : fn_X9_in (nI k).toInt64 0 1 = some (nI 1) := by
    rw [px_inN (lo := 0) (hi := 1) (by omega) (by decide) (by decide), if_pos (show 0 ≤ k ∧ k ≤ 1 by omega)]
  generalize hβ : dc_wI (dc_wI α 55 34 (nI (90 * k))) 55 35 (nI 0) = β
  have b34 : β.1 55 34 = nI (90 * k) := by rw [← hβ, px_wn (by decide), px_ws]
  have b35 : β.1 55 35 = nI (if false = true then 1 else 0) := by rw [← hβ, px_ws]; rfl
  have bo : ∀ c j, ¬ (c = 55 ∧ (j = 34 ∨ j = 35)) → β.1 c j = α.1 c j := fun c j q => by rw [← hβ, px_wn (by omega), px_wn (by omega)]
  obtain ⟨γ, g1, g2⟩ := pm_all' (w := false) (by omega) b34 b35
  have kp : pKp β (90 * k) y.1 y.2 := pKp.other hI.2 (fun j _ _ => bo 75 j (by omega)) hok.2.1
  obtain ⟨m1, m2⟩ := g2.rd kp hok.2.1
  have ce : ∀ c j, (c < 55 ∨ 62 < c ∨ (c = 55 ∧ 12 ≤ j)) → ∀ a, a < 73 → ¬ (c = (cel a).1 ∧ j = (cel a).2) := by
    intro c j q a ha e
    have r := cel_r ha
    have r3 := r.2.2
    rw [← e.1, ← e.2] at r3
    omega
  have fr : ∀ c j, (c < 55 ∨ 62 < c ∨ (c = 55 ∧ 12 ≤ j)) → ¬ (c = 55 ∧ (j = 34 ∨ j = 35)) → γ.1 c j = α.1 c j := fun c j q1 q2 => (g2.fr (ce c j q1) (by omega)).trans (bo c j q2)
  refine ⟨γ, ?_, fun c j h => fr c j (by omega) (by omega), m1, hα.2.1.other (fr 55 13 (by omega) (by omega)) (fun i _ => fr 63 i (by omega) (by omega)), m2, pIM.other hα.2.2.2.1 ho.2.2.2.1 (fr 76 0 (by omega) (by omega)) (fun j _ _ => fr 75 j (by omega) (by omega)), pIM.other hα.2.2.2.2 ho.2.2.2.2 (fr 76 1 (by omega) (by omega)) (fun j _ _ => fr 75 j (by omega) (by omega))⟩
  unfold fn_X9_restore
  rw [f1, Option.bind_some, if_neg (by decide), px_gg (by omega) (by decide), nI_clamp (by omega), hI.1, if_neg (by decide), pk_mul]
  simp only [dc_let, hβ, g1, Option.bind_some]
theorem op_restore (x : Int32) : pOp (fun σ => fn_X8_restore σ x) (fun σ => fn_X9_restore σ x) := by
  intro σ hR
  obtain ⟨G, ho, hc, hm⟩ := id hR
  have n1 : ¬ nI 1 = 0 := by decide
  by_cases hx : pr x 0 1
  · have e1 := (px_within (x := x) (lo := 0) (hi := 1) (by decide) (by decide)).1 hx
    have f1 := (px_in (x := x) (lo := 0) (hi := 1) (L := 0) (H := 1) (by decide) (by decide)).1 hx
    obtain ⟨k, hk, rfl⟩ := pr_of (by decide) hx
    rcases (show k = 0 ∨ k = 1 by omega) with rfl | rfl
    · have hI := hc.2.2.2.1
      have hJ := hm.2.2.2.1
      have hO := ho.2.2.2.1
      cases q : G.2.2.2.1 with
      | none =>
        rw [q] at hI hJ
        have hI' : σ.1 31 2 = nI 0 := hI
        have hJ' : σ.1 76 0 = nI 0 := hJ
        refine ⟨(-3 : Int32), σ, σ, ?_, ?_, hR⟩
        · simp only [fn_X8_restore, e1, Option.bind_some, n1, if_false, hI']
          rw [if_pos nI_0, if_pos nI_0]
        · simp only [fn_X9_restore, f1, Option.bind_some, n1, if_false]
          rw [px_gg (by decide) (by decide), nI_clamp (by decide), hJ', if_pos nI_0]
      | some y =>
        rw [q] at hI hJ hO
        obtain ⟨i1, i2, i3⟩ := hI
        have hok := hO y rfl
        obtain ⟨α, a1, a2, a3⟩ := pc_copy_1_32 i2
        obtain ⟨β, b1, b2, b3⟩ := pc_scopy (d := 7) (s := 38) (i3.other (a3.1 38 0 (by omega)) (fun c i _ _ => a3.1 (38 + c) i (by omega))) hok.2.1 (by omega)
        have fr : ∀ c j, c < 1 ∨ 9 < c → β.1 c j = σ.1 c j := fun c j q => by rw [b3.1 c j (by omega), a3.1 c j (by omega)]
        have hmβ : pML β G := hm.other ho (fun c j u => fr c j (by unfold Um at u; omega))
        have hJβ := hmβ.2.2.2.1
        rw [q] at hJβ
        obtain ⟨τ, t1, t2, t3, t4, t5, t6, t7⟩ := pm_restore ho hmβ (k := 0) (by decide) hJβ hok
        refine ⟨nI 1, β, τ, ?_, t1, (y.1, G.2.1, y.2, G.2.2.2), ⟨hok.1, ho.2.1, hok.2, ho.2.2.2⟩, ⟨?_, ?_, ?_, ?_, ?_⟩, t3, t4, t5, t6, t7⟩
        · simp only [fn_X8_restore, e1, Option.bind_some, n1, if_false, i1]
          rw [if_pos nI_0, a1, Option.bind_some, b1, Option.bind_some]
        · exact a2.1.other (fun j hj => (t2 1 j (by decide)).trans (b3.1 1 j (by omega))) (fun c j _ _ => (t2 (1 + c) j (by omega)).trans (b3.1 (1 + c) j (by omega)))
        · exact hc.2.1.other ((t2 12 0 (by decide)).trans (fr 12 0 (by omega))) (fun i _ => (t2 13 i (by decide)).trans (fr 13 i (by omega)))
        · exact b2.other (t2 7 0 (by decide)) (fun c i _ _ => t2 (7 + c) i (by omega))
        · exact hc.2.2.2.1.other (fun c j _ _ => (t2 c j (by omega)).trans (fr c j (by omega)))
        · exact hc.2.2.2.2.other (fun c j _ _ => (t2 c j (by omega)).trans (fr c j (by omega)))
    · have hI := hc.2.2.2.2
      have hJ := hm.2.2.2.2
      have hO := ho.2.2.2.2
      cases q : G.2.2.2.2 with
      | none =>
        rw [q] at hI hJ
        have hI' : σ.1 43 2 = nI 0 := hI
        have hJ' : σ.1 76 1 = nI 0 := hJ
        refine ⟨(-3 : Int32), σ, σ, ?_, ?_, hR⟩
        · simp only [fn_X8_restore, e1, Option.bind_some, n1, if_false, hI']
          rw [if_pos nI_0]
        · simp only [fn_X9_restore, f1, Option.bind_some, n1, if_false]
          rw [px_gg (by decide) (by decide), nI_clamp (by decide), hJ', if_pos nI_0]
      | some y =>
        rw [q] at hI hJ hO
        obtain ⟨i1, i2, i3⟩ := hI
        have hok := hO y rfl
        obtain ⟨α, a1, a2, a3⟩ := pc_copy_1_44 i2
        obtain ⟨β, b1, b2, b3⟩ := pc_scopy (d := 7) (s := 50) (i3.other (a3.1 50 0 (by omega)) (fun c i _ _ => a3.1 (50 + c) i (by omega))) hok.2.1 (by omega)
        have fr : ∀ c j, c < 1 ∨ 9 < c → β.1 c j = σ.1 c j := fun c j q => by rw [b3.1 c j (by omega), a3.1 c j (by omega)]
        have hmβ : pML β G := hm.other ho (fun c j u => fr c j (by unfold Um at u; omega))
        have hJβ := hmβ.2.2.2.2
        rw [q] at hJβ
        obtain ⟨τ, t1, t2, t3, t4, t5, t6, t7⟩ := pm_restore ho hmβ (k := 1) (by decide) hJβ hok
        refine ⟨nI 1, β, τ, ?_, t1, (y.1, G.2.1, y.2, G.2.2.2), ⟨hok.1, ho.2.1, hok.2, ho.2.2.2⟩, ⟨?_, ?_, ?_, ?_, ?_⟩, t3, t4, t5, t6, t7⟩
        · simp only [fn_X8_restore, e1, Option.bind_some, n1, if_false, i1]
          rw [a1, Option.bind_some, b1, Option.bind_some]
        · exact a2.1.other (fun j hj => (t2 1 j (by decide)).trans (b3.1 1 j (by omega))) (fun c j _ _ => (t2 (1 + c) j (by omega)).trans (b3.1 (1 + c) j (by omega)))
        · exact hc.2.1.other ((t2 12 0 (by decide)).trans (fr 12 0 (by omega))) (fun i _ => (t2 13 i (by decide)).trans (fr 13 i (by omega)))
        · exact b2.other (t2 7 0 (by decide)) (fun c i _ _ => t2 (7 + c) i (by omega))
        · exact hc.2.2.2.1.other (fun c j _ _ => (t2 c j (by omega)).trans (fr c j (by omega)))
        · exact hc.2.2.2.2.other (fun c j _ _ => (t2 c j (by omega)).trans (fr c j (by omega)))
  · refine ⟨(-2 : Int32), σ, σ, ?_, ?_, hR⟩
    · simp only [fn_X8_restore, (px_within (x := x) (lo := 0) (hi := 1) (by decide) (by decide)).2 hx, Option.bind_some]
      rw [if_pos nI_0]
    · simp only [fn_X9_restore, (px_in (x := x) (lo := 0) (hi := 1) (L := 0) (H := 1) (by decide) (by decide)).2 hx, Option.bind_some]
      rw [if_pos nI_0]
