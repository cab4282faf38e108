/-! nights: the answers -/
theorem qnf_0 {f : Nat → Bool} {w : Nat → Nat} : qnf (qT0 f w 0) = some 0 := by
  have h : qLe (qnf (qT0 f w 0)) 0 := qnf_le.mpr ⟨0, by decide, by rw [qT0_0]; exact qLe_s.mpr (Nat.le_refl _), by decide⟩
  obtain ⟨a, e, ha⟩ := h
  rw [e]
  congr 1
  omega
theorem qnf_pos {f : Nat → Bool} {w : Nat → Nat} {d p r : Nat} (hp : p < 6) (h : qnf (qT1 f w d p) = some r) : 0 < r := by
  obtain ⟨S, hS, e⟩ := qfold_of h
  unfold qz at e
  split at e
  · rename_i c
    rw [← Option.some.inj e]
    refine (qbt_6 S hS).2 (fun z => ?_)
    rw [z, qT1_n (by decide) (qbit3 p hp).2.2.2] at c
    cases c
  · cases e
theorem op_nights (x y : Int32) : pOp (fun σ => fn_X8_nights σ x y) (fun σ => fn_X9_nights σ x y) := by
  intro σ hR
  obtain ⟨G, ho, hc, hm⟩ := id hR
  have n1 : ¬ nI 1 = 0 := by decide
  by_cases hx : pr x 0 7
  · obtain ⟨k, hk, rfl⟩ := pr_of (by decide) hx
    have hk8 : k < 8 := by omega
    cases ht : pth G.1 k with
    | false =>
      refine ⟨(-1 : Int32), σ, σ, ?_, ?_, hR⟩
      · have q : fn_X0_has σ 1 (nI k) = some (nI 0) := by rw [pc_has hc.1 hk8, ht]; rfl
        simp only [fn_X8_nights, q, Option.bind_some]
        rw [if_pos nI_0]
      · have q : fn_X9_isSinger σ (nI k) = some (nI 0) := by rw [pm_is hm.1 hk8, ht]; rfl
        simp only [fn_X9_nights, q, Option.bind_some]
        rw [if_pos nI_0]
    | true =>
      have hq : fn_X0_has σ 1 (nI k) = some (nI 1) := by rw [pc_has hc.1 hk8, ht]; rfl
      have mq : ∀ α, pM α G.1 → fn_X9_isSinger α (nI k) = some (nI 1) := fun α h => by rw [pm_is h hk8, ht]; rfl
      by_cases hy : pr y 0 1
      · have e2 := (px_within (x := y) (lo := 0) (hi := 1) (by decide) (by decide)).1 hy
        have f2 := (px_in (x := y) (lo := 0) (hi := 1) (L := 0) (H := 1) (by decide) (by decide)).1 hy
        obtain ⟨α, a1, a2, a3, a4⟩ := pc_find0 hc.1 ho.1 hk8 ht
        have hcα := hc.scr a2 (by decide) (by decide)
        have hmα := hm.c ho a2 (by decide)
        have hd := ho.1.2.2.1 k hk8
        have hb : ∀ j, j < 64 → qok (qT (qbb 0 (some (pde G.1 k))) (qfv G.1 (pvo G.1 k)) (qw G.1) j) := fun j hj x h => Nat.le_trans (qT_le (qbb_gr0 hd) hj h) (by decide)
        obtain ⟨β, b1, b2⟩ := pm_few hmα.1 ho.1 hk8 ht (m := 0) (c := pde G.1 k) (by decide) (by omega) hb
        have hcβ := hcα.m b2 (fun c j w => by unfold W68 at w; omega)
        have hmβ : pML β G := hmα.other ho (fun c j u => b2.1 c j (by unfold Um at u; unfold W68; omega))
        have e57 : α.1 57 k = nI (pde G.1 k) := by
          obtain ⟨_, _, _, _, _, _, h4, _, _, _⟩ := hmα.1
          exact (h4 k hk8 ht).2.2.2
        have g1 : fn_X8_nights σ (nI k) y = some (if y = 0 then α.1 21 0 else α.1 21 1, α) := by
          simp only [fn_X8_nights, hq, Option.bind_some, if_false, e2, n1, a1]
          split <;> rfl
        have g2 : ∀ r, fn_X9_fewestNights α (nI k) (nI 0) (nI (pde G.1 k)) = some (r, β) → fn_X9_nights α (nI k) y = (if y = 0 then some (r, β) else if 0 < r then (fn_X9_firstNight β (nI k) r).bind (fun r60 => some (r60.1, r60.2)) else some ((-6 : Int32), β)) := by
          intro r er
          simp only [fn_X9_nights, mq α hmα.1, Option.bind_some, if_false, f2, n1]
          rw [px_gg hk8 (by decide), nI_clamp (by omega), e57, er, Option.bind_some]
          by_cases z : y = 0
          · simp only [z, if_true]
          · simp only [z, if_false]
        by_cases c : pde G.1 k = 0
        · obtain ⟨c1, c2⟩ := a3 c
          have er := b1
          rw [c] at er
          rw [show qnf (qT (qbb 0 (some 0)) (qfv G.1 (pvo G.1 k)) (qw G.1)) = some 0 from qnf_0] at er
          refine ⟨if y = 0 then nI 0 else (-6 : Int32), α, β, ?_, ?_, ⟨G, ho, hcβ, hmβ⟩⟩
          · show fn_X8_nights σ (nI k) y = _
            rw [g1, c1, c2]
          · show fn_X9_nights α (nI k) y = _
            rw [g2 (nI 0) (by rw [c]; exact er), if_neg (show ¬ 0 < nI 0 by decide)]
            split <;> rfl
        · have cpos : 0 < pde G.1 k := by omega
          obtain ⟨c1, c2⟩ := a4 cpos
          have er := b1
          rw [show qnf (qT (qbb 0 (some (pde G.1 k))) (qfv G.1 (pvo G.1 k)) (qw G.1)) = (qfd (fun p => qnf (qT1 (qfv G.1 (pvo G.1 k)) (qw G.1) (pde G.1 k) p)) 6).map (·.1) from qfd_nf cpos] at er
          by_cases z : y = 0
          · refine ⟨α.1 21 0, α, β, ?_, ?_, ⟨G, ho, hcβ, hmβ⟩⟩
            · show fn_X8_nights σ (nI k) y = _
              rw [g1, if_pos z]
            · show fn_X9_nights α (nI k) y = _
              rw [g2 _ er, if_pos z, c1]
          · cases q : qfd (fun p => qnf (qT1 (qfv G.1 (pvo G.1 k)) (qw G.1) (pde G.1 k) p)) 6 with
            | none =>
              rw [q] at er c2
              refine ⟨(-6 : Int32), α, β, ?_, ?_, ⟨G, ho, hcβ, hmβ⟩⟩
              · show fn_X8_nights σ (nI k) y = _
                rw [g1, if_neg z, c2]; rfl
              · show fn_X9_nights α (nI k) y = _
                rw [g2 _ er, if_neg z, if_neg (show ¬ 0 < qen (Option.map (fun a : Nat × Nat => a.1) none) by decide)]
            | some a =>
              obtain ⟨m, p⟩ := a
              rw [q] at er c2
              obtain ⟨q1, q2, q3, q4⟩ := qfd_s q
              have m8 : m ≤ 8 := qz_8 q2
              have mp := qnf_pos q1 q2
              obtain ⟨γ, d1, d2⟩ := pl_first ho.1 hk8 ht q1 m8 q2 q4 p 0 200 β hmβ.1 (by omega) (by omega)
              have hcγ := hcβ.m d2 (fun c j w => by unfold W68 at w; omega)
              have hmγ : pML γ G := hmβ.other ho (fun c j u => d2.1 c j (by unfold Um at u; unfold W68; omega))
              refine ⟨nI p, α, γ, ?_, ?_, ⟨G, ho, hcγ, hmγ⟩⟩
              · show fn_X8_nights σ (nI k) y = _
                rw [g1, if_neg z, c2]; rfl
              · show fn_X9_nights α (nI k) y = _
                rw [g2 _ er, if_neg z, show qen (Option.map (fun a : Nat × Nat => a.1) (some (m, p))) = nI m from rfl, if_pos ((px_0lt (by omega)).mpr mp)]
                unfold fn_X9_firstNight
                rw [d1, Option.bind_some, Sum.elim_inl, Option.bind_some]
      · refine ⟨(-2 : Int32), σ, σ, ?_, ?_, hR⟩
        · simp only [fn_X8_nights, hq, Option.bind_some, n1, if_false, (px_within (x := y) (lo := 0) (hi := 1) (by decide) (by decide)).2 hy]
          rw [if_pos nI_0]
        · simp only [fn_X9_nights, mq σ hm.1, Option.bind_some, n1, if_false, (px_in (x := y) (lo := 0) (hi := 1) (L := 0) (H := 1) (by decide) (by decide)).2 hy]
          rw [if_pos nI_0]
  · refine ⟨(-1 : Int32), σ, σ, ?_, ?_, hR⟩
    · simp only [fn_X8_nights, pc_hasN hx, Option.bind_some]
      rw [if_pos nI_0]
    · simp only [fn_X9_nights, pm_isN hx, Option.bind_some]
      rw [if_pos nI_0]
