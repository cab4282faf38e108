/-! image, restore: the answers -/
theorem cel5 : ∀ k, k < 8 → cel (5 + k) = (56, k) := by decide
theorem cel13 : ∀ k, k < 8 → cel (13 + k) = (57, k) := by decide
theorem cel21 : ∀ k, k < 24 → cel (21 + k) = (58, k) := by decide
theorem cel45 : ∀ k, k < 6 → cel (45 + k) = (59, k) := by decide
theorem cel51 : ∀ k, k < 6 → cel (51 + k) = (60, k) := by decide
theorem cel57 : ∀ k, k < 8 → cel (57 + k) = (61, k) := by decide
theorem cel65 : ∀ k, k < 8 → cel (65 + k) = (62, k) := by decide
theorem qInv.kp {σ τ : dc_HP} {z : Nat} (h : qInv σ true z 73 τ) {V : pV} {S : pSg} (hM : pM σ V) (hS : pSM σ S) (hl : S.2.2 ≤ 8) : pKp τ z V S := by
  have e : ∀ a, a < 73 → τ.1 75 (z + a) = σ.1 (cel a).1 (cel a).2 := fun a ha => (h.1 a ha).2
  have e' : ∀ a c j, a < 73 → cel a = (c, j) → ∀ n, n = z + a → τ.1 75 n = σ.1 c j := fun a c j ha hc n hn => by rw [hn, e a ha, hc]
  obtain ⟨hm, sm, g0, g1, g2, g3, g4, g5, g6, g7⟩ := hM
  refine ⟨hm, sm, (e' 0 55 0 (by decide) rfl _ rfl).trans g0, (e' 1 55 1 (by decide) rfl _ rfl).trans g1, (e' 2 55 2 (by decide) rfl _ rfl).trans g2, (e' 3 55 3 (by decide) rfl _ rfl).trans g3, (e' 4 55 11 (by decide) rfl _ rfl).trans hS.1, fun k hk ht => ⟨(g4 k hk ht).1, (g4 k hk ht).2.1, (e' (5 + k) 56 k (by omega) (cel5 k hk) _ (by omega)).trans (g4 k hk ht).2.2.1, (e' (13 + k) 57 k (by omega) (cel13 k hk) _ (by omega)).trans (g4 k hk ht).2.2.2⟩, fun p hp v hv => (e' (21 + (4 * p + v)) 58 (4 * p + v) (by omega) (cel21 _ (by omega)) _ (by omega)).trans (g5 p hp v hv), fun p hp => (e' (45 + p) 59 p (by omega) (cel45 p hp) _ (by omega)).trans (g6 p hp), fun p hp => (e' (51 + p) 60 p (by omega) (cel51 p hp) _ (by omega)).trans (g7 p hp), fun i hi => ⟨(e' (57 + i) 61 i (by omega) (cel57 i (by omega)) _ (by omega)).trans (hS.2 i hi).1, (e' (65 + i) 62 i (by omega) (cel65 i (by omega)) _ (by omega)).trans (hS.2 i hi).2⟩⟩
theorem qInv.rd {σ τ : dc_HP} {z : Nat} (h : qInv σ false z 73 τ) {V : pV} {S : pSg} (hK : pKp σ z V S) (hl : S.2.2 ≤ 8) : pM τ V ∧ pSM τ S := by
  have e' : ∀ a c j, a < 73 → cel a = (c, j) → ∀ n, n = z + a → τ.1 c j = σ.1 75 n := fun a c j ha hc n hn => by
    have := (h.1 a ha).1
    rw [hc] at this
    rw [hn]
    exact this
  obtain ⟨hm, sm, g0, g1, g2, g3, g11, g4, g5, g6, g7, g8⟩ := hK
  refine ⟨⟨hm, sm, (e' 0 55 0 (by decide) rfl _ rfl).trans g0, (e' 1 55 1 (by decide) rfl _ rfl).trans g1, (e' 2 55 2 (by decide) rfl _ rfl).trans g2, (e' 3 55 3 (by decide) rfl _ rfl).trans g3, fun k hk ht => ⟨(g4 k hk ht).1, (g4 k hk ht).2.1, (e' (5 + k) 56 k (by omega) (cel5 k hk) _ (by omega)).trans (g4 k hk ht).2.2.1, (e' (13 + k) 57 k (by omega) (cel13 k hk) _ (by omega)).trans (g4 k hk ht).2.2.2⟩, fun p hp v hv => (e' (21 + (4 * p + v)) 58 (4 * p + v) (by omega) (cel21 _ (by omega)) _ (by omega)).trans (g5 p hp v hv), fun p hp => (e' (45 + p) 59 p (by omega) (cel45 p hp) _ (by omega)).trans (g6 p hp), fun p hp => (e' (51 + p) 60 p (by omega) (cel51 p hp) _ (by omega)).trans (g7 p hp)⟩, (e' 4 55 11 (by decide) rfl _ rfl).trans g11, fun i hi => ⟨(e' (57 + i) 61 i (by omega) (cel57 i (by omega)) _ (by omega)).trans (g8 i hi).1, (e' (65 + i) 62 i (by omega) (cel65 i (by omega)) _ (by omega)).trans (g8 i hi).2⟩⟩
theorem px_cpo {σ : dc_HP} {s d n c j : Nat} (h : c ≠ d) : (dc_cp σ s d n).1 c j = σ.1 c j := if_neg (fun q => h q.1)
theorem px_cpi {σ : dc_HP} {s d n j : Nat} (h : j < n) : (dc_cp σ s d n).1 d j = σ.1 s j := if_pos ⟨rfl, h⟩
theorem pc_scopy {σ : dc_HP} {d s : Nat} {S : pSg} (h : pSC σ s S) (hl : S.2.2 ≤ 8) (hd : d + 2 < s ∨ s + 2 < d) : ∃ τ, fn_X6_copyFrom σ d s = some τ ∧ pSC τ d S ∧ pF d (d + 2) σ τ := by
  unfold fn_X6_copyFrom
  simp only [dc_let]
  refine ⟨_, rfl, ⟨?_, fun i hi => ⟨?_, ?_⟩⟩, fun c j hc => ?_, rfl⟩
  · rw [px_cpo (by omega), px_cpo (by omega), px_ws]; exact h.1
  · rw [px_cpo (by omega), px_cpi (by omega), px_wn (by omega)]; exact (h.2 i hi).1
  · rw [px_cpi (by omega), px_cpo (by omega), px_wn (by omega)]; exact (h.2 i hi).2
  · rw [px_cpo (by omega), px_cpo (by omega), px_wn (by omega)]
theorem op_image (x : Int32) : pOp (fun σ => fn_X8_image σ x) (fun σ => fn_X9_image σ x) := by
  intro σ hR
  obtain ⟨G, ho, hc, hm⟩ := id hR
  have n1 : ¬ nI 1 = 0 := by decide
  by_cases hx : pr x 0 1
  · have e1 := (px_within (x := x) (lo := 0) (hi := 1) (by decide) (by decide)).1 hx
    have f1 := (px_in (x := x) (lo := 0) (hi := 1) (L := 0) (H := 1) (by decide) (by decide)).1 hx
    obtain ⟨k, hk, rfl⟩ := pr_of (by decide) hx
    have sok := ho.2.2.1.1
    -- the reference, from any heap that still holds what it knows
    have ref : ∀ α, pML α G → ∃ τ, fn_X9_image α (nI k) = some (nI 1, τ) ∧ (∀ c j, c < 55 → τ.1 c j = α.1 c j) ∧ pM τ G.1 ∧ pQ τ G.2.1 ∧ pSM τ G.2.2.1 ∧ pIM τ k (some (G.1, G.2.2.1)) ∧ (∀ k', k' < 2 → k' ≠ k → ∀ o, pIok o → pIM α k' o → pIM τ k' o) := by
      intro α hα
      generalize hβ : dc_wI (dc_wI α 55 34 (nI (90 * k))) 55 35 (nI 1) = β
      have b34 : β.1 55 34 = nI (90 * k) := by rw [← hβ, px_wn (by decide), px_ws]
      have b35 : β.1 55 35 = nI (if true = true then 1 else 0) := by rw [← hβ, px_ws]; rfl
      have bo : ∀ c j, ¬ (c = 55 ∧ (j = 34 ∨ j = 35)) → β.1 c j = α.1 c j := fun c j q => by rw [← hβ, px_wn (by omega), px_wn (by omega)]
      obtain ⟨γ, g1, g2⟩ := pm_all' (w := true) (by omega) b34 b35
      have bM : pM β G.1 := hα.1.other (fun j hj => bo 55 j (by omega)) (fun c j _ _ => bo c j (by omega))
      have bS : pSM β G.2.2.1 := hα.2.2.1.other (bo 55 11 (by decide)) (fun c j _ _ => bo c j (by omega))
      have kp := g2.kp bM bS sok
      generalize hτ : dc_wI γ 76 k (nI 1) = τ
      have to : ∀ c j, ¬ (c = 76 ∧ j = k) → τ.1 c j = γ.1 c j := fun c j q => by rw [← hτ, px_wn q]
      have fr : ∀ c j, ¬ (c = 76 ∧ j = k) → ¬ (c = 75 ∧ 90 * k ≤ j ∧ j < 90 * k + 73) → ¬ (c = 55 ∧ (j = 34 ∨ j = 35)) → τ.1 c j = α.1 c j := fun c j q1 q2 q3 => (to c j q1).trans ((g2.fw q2 (by omega)).trans (bo c j q3))
      refine ⟨τ, ?_, fun c j hcj => fr c j (by omega) (by omega) (by omega), hα.1.other (fun j hj => fr 55 j (by omega) (by omega) (by omega)) (fun c j _ _ => fr c j (by omega) (by omega) (by omega)), hα.2.1.other (fr 55 13 (by omega) (by omega) (by omega)) (fun i _ => fr 63 i (by omega) (by omega) (by omega)), hα.2.2.1.other (fr 55 11 (by omega) (by omega) (by omega)) (fun c j _ _ => fr c j (by omega) (by omega) (by omega)), ⟨by rw [← hτ, px_ws], ?_⟩, fun k' hk' hne o hok h => ?_⟩
      · simp only [fn_X9_image, f1, Option.bind_some, n1, if_false, pk_mul, dc_let, hβ, g1]
        rw [px_gg (by omega) (by decide), nI_clamp (by omega), hτ]
      · exact pKp.other kp (fun j _ _ => to 75 j (by omega)) sok
      · exact pIM.other h hok (fr 76 k' (by omega) (by omega) (by omega)) (fun j h1 h2 => fr 75 j (by omega) (by omega) (by omega))
    rcases (show k = 0 ∨ k = 1 by omega) with rfl | rfl
    · obtain ⟨α, a1, a2, a3⟩ := pc_copy_32_1 hc.1
      obtain ⟨β, b1, b2, b3⟩ := pc_scopy (d := 38) (s := 7) (hc.2.2.1.other (a3.1 7 0 (by omega)) (fun c i _ _ => a3.1 (7 + c) i (by omega))) sok (by omega)
      generalize hγ : dc_wI β 31 2 (nI 1) = γ
      have fr : ∀ c j, c < 31 ∨ 40 < c → γ.1 c j = σ.1 c j := fun c j q => by rw [← hγ, px_wn (by omega), b3.1 c j (by omega), a3.1 c j (by omega)]
      have hmγ : pML γ G := hm.other ho (fun c j u => fr c j (by unfold Um at u; omega))
      obtain ⟨τ, t1, t2, t3, t4, t5, t6, t7⟩ := ref γ hmγ
      refine ⟨nI 1, γ, τ, ?_, t1, (G.1, G.2.1, G.2.2.1, some (G.1, G.2.2.1), G.2.2.2.2), ⟨ho.1, ho.2.1, ho.2.2.1, fun y e => by cases e; exact ⟨ho.1, ho.2.2.1⟩, ho.2.2.2.2⟩, ⟨?_, ?_, ?_, ⟨?_, ?_, ?_⟩, ?_⟩, t3, t4, t5, t6, t7 1 (by decide) (by decide) _ ho.2.2.2.2 hmγ.2.2.2.2⟩
      · simp only [fn_X8_image, e1, Option.bind_some, n1, if_false]
        rw [if_pos nI_0, a1, Option.bind_some, b1, Option.bind_some]
        simp only [dc_let, hγ]
      · exact hc.1.other (fun j hj => (t2 1 j (by decide)).trans (fr 1 j (by omega))) (fun c j _ _ => (t2 (1 + c) j (by omega)).trans (fr (1 + c) j (by omega)))
      · exact hc.2.1.other ((t2 12 0 (by decide)).trans (fr 12 0 (by omega))) (fun i _ => (t2 13 i (by decide)).trans (fr 13 i (by omega)))
      · exact hc.2.2.1.other ((t2 7 0 (by decide)).trans (fr 7 0 (by omega))) (fun c i _ _ => (t2 (7 + c) i (by omega)).trans (fr (7 + c) i (by omega)))
      · rw [t2 31 2 (by decide), ← hγ, px_ws]
      · exact a2.1.other (fun j hj => by rw [t2 32 j (by decide), ← hγ, px_wn (by omega), b3.1 32 j (by omega)]) (fun c j _ _ => by rw [t2 (32 + c) j (by omega), ← hγ, px_wn (by omega), b3.1 (32 + c) j (by omega)])
      · exact b2.other (by rw [t2 38 0 (by decide), ← hγ, px_wn (by decide)]) (fun c i _ _ => by rw [t2 (38 + c) i (by omega), ← hγ, px_wn (by omega)])
      · exact hc.2.2.2.2.other (fun c j _ _ => (t2 c j (by omega)).trans (fr c j (by omega)))
    · obtain ⟨α, a1, a2, a3⟩ := pc_copy_44_1 hc.1
      obtain ⟨β, b1, b2, b3⟩ := pc_scopy (d := 50) (s := 7) (hc.2.2.1.other (a3.1 7 0 (by omega)) (fun c i _ _ => a3.1 (7 + c) i (by omega))) sok (by omega)
      generalize hγ : dc_wI β 43 2 (nI 1) = γ
      have fr : ∀ c j, c < 43 ∨ 52 < c → γ.1 c j = σ.1 c j := fun c j q => by rw [← hγ, px_wn (by omega), b3.1 c j (by omega), a3.1 c j (by omega)]
      have hmγ : pML γ G := hm.other ho (fun c j u => fr c j (by unfold Um at u; omega))
      obtain ⟨τ, t1, t2, t3, t4, t5, t6, t7⟩ := ref γ hmγ
      refine ⟨nI 1, γ, τ, ?_, t1, (G.1, G.2.1, G.2.2.1, G.2.2.2.1, some (G.1, G.2.2.1)), ⟨ho.1, ho.2.1, ho.2.2.1, ho.2.2.2.1, fun y e => by cases e; exact ⟨ho.1, ho.2.2.1⟩⟩, ⟨?_, ?_, ?_, ?_, ?_, ?_, ?_⟩, t3, t4, t5, t7 0 (by decide) (by decide) _ ho.2.2.2.1 hmγ.2.2.2.1, t6⟩
      · simp only [fn_X8_image, e1, Option.bind_some, n1, if_false]
        rw [a1, Option.bind_some, b1, Option.bind_some]
        simp only [dc_let, hγ]
      · exact hc.1.other (fun j hj => (t2 1 j (by decide)).trans (fr 1 j (by omega))) (fun c j _ _ => (t2 (1 + c) j (by omega)).trans (fr (1 + c) j (by omega)))
      · exact hc.2.1.other ((t2 12 0 (by decide)).trans (fr 12 0 (by omega))) (fun i _ => (t2 13 i (by decide)).trans (fr 13 i (by omega)))
      · exact hc.2.2.1.other ((t2 7 0 (by decide)).trans (fr 7 0 (by omega))) (fun c i _ _ => (t2 (7 + c) i (by omega)).trans (fr (7 + c) i (by omega)))
      · exact hc.2.2.2.1.other (fun c j _ _ => (t2 c j (by omega)).trans (fr c j (by omega)))
      · rw [t2 43 2 (by decide), ← hγ, px_ws]
      · exact a2.1.other (fun j hj => by rw [t2 44 j (by decide), ← hγ, px_wn (by omega), b3.1 44 j (by omega)]) (fun c j _ _ => by rw [t2 (44 + c) j (by omega), ← hγ, px_wn (by omega), b3.1 (44 + c) j (by omega)])
      · exact b2.other (by rw [t2 50 0 (by decide), ← hγ, px_wn (by decide)]) (fun c i _ _ => by rw [t2 (50 + c) i (by omega), ← hγ, px_wn (by omega)])
  · refine ⟨(-2 : Int32), σ, σ, ?_, ?_, hR⟩
    · simp only [fn_X8_image, (px_within (x := x) (lo := 0) (hi := 1) (by decide) (by decide)).2 hx, Option.bind_some]
      rw [if_pos nI_0]
    · simp only [fn_X9_image, (px_in (x := x) (lo := 0) (hi := 1) (L := 0) (H := 1) (by decide) (by decide)).2 hx, Option.bind_some]
      rw [if_pos nI_0]
