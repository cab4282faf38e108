/-! holds -/
theorem op_holds (x : Int32) : pOp (fun σ => fn_X8_holds σ x) (fun σ => (fn_X9_holds σ x).map (fun r => (r, σ))) := by
  intro σ hR
  obtain ⟨G, ho, hc, hm⟩ := hR
  have hS := ho.2.2.1
  obtain ⟨τ, t1, t2, t3⟩ := pc_find hc.2.2.1 hS
  have hmτ : pML τ G := hm.other ho (fun c j u => t3.1 c j (by unfold Um at u; omega))
  have hcτ : pCL τ G := hc.other (fun c j u => t3.1 c j (by unfold Uc at u; omega))
  have hRτ : pRL τ := ⟨G, ho, hcτ, hmτ⟩
  have hl := qrows_le (S := G.2.2.1) 100
  obtain ⟨k1, k2⟩ := pl_mholds hmτ.2.2.1 hS x 100 0 200 rfl (by decide) (fun k q => Nat.zero_le k)
  generalize hRw : qrows G.2.2.1 100 = R at t2 k1 k2 hl
  have e0 : fn_X9_holds τ x = (fn_X9_holds_L4 τ x 200 (nI (qrows G.2.2.1 0).length) (nI 0)).bind (Sum.elim (fun r => some r) (fun q4 => (if x = ((-1 : Int32)) then some q4 else some ((-6 : Int32))))) := rfl
  by_cases c : x = (-1 : Int32)
  · refine ⟨nI R.length, τ, τ, ?_, ?_, hRτ⟩
    · show fn_X8_holds σ x = _
      unfold fn_X8_holds
      rw [t1, Option.bind_some, if_pos c, t2.1]
    · show (fn_X9_holds τ x).map _ = _
      rw [e0, k2 (fun k e hk2 => absurd (e.trans c) (fun q => by
        have := nI_toInt hk2
        rw [q, show ((-1 : Int32)).toInt = -1 by decide] at this
        omega)), Option.bind_some]
      show (if x = ((-1 : Int32)) then some (nI R.length) else some ((-6 : Int32))).map _ = _
      rw [if_pos c]
      rfl
  · have cl : fn_X8_holds σ x = (fn_X6_rowAt τ 7 x).bind (fun r27 => some (r27, τ)) := by
      unfold fn_X8_holds
      rw [t1, Option.bind_some, if_neg c]
    by_cases hx : pr x 0 99
    · obtain ⟨k, hk, rfl⟩ := pr_of (by decide) hx
      by_cases ck : k < R.length
      · obtain ⟨v, hv⟩ : ∃ v, R[k]? = some v := ⟨R[k], List.getElem?_eq_getElem ck⟩
        refine ⟨nI v, τ, τ, ?_, ?_, hRτ⟩
        · show fn_X8_holds σ (nI k) = _
          rw [cl, fn_X6_rowAt, if_neg (nI_pos (by omega)), t2.1, if_neg (nI_ge ck (by omega)), if_neg (nI_ge (by omega) (by decide)), px_gg (by omega) (by decide), nI_clamp (by omega), t2.2 k v hv, Option.bind_some]
        · show (fn_X9_holds τ (nI k)).map _ = _
          rw [e0, k1 k v rfl (by omega) hv, Option.bind_some]
          rfl
      · refine ⟨(-6 : Int32), τ, τ, ?_, ?_, hRτ⟩
        · show fn_X8_holds σ (nI k) = _
          rw [cl, fn_X6_rowAt, if_neg (nI_pos (by omega)), t2.1, if_pos (nI_le (by omega) (by omega)), Option.bind_some]
        · show (fn_X9_holds τ (nI k)).map _ = _
          rw [e0, k2 (fun k' e hk2 => by have := (nI_eq hk2 (by omega)).mp e; omega), Option.bind_some]
          show (if nI k = ((-1 : Int32)) then some (nI R.length) else some ((-6 : Int32))).map _ = _
          rw [if_neg c]
          rfl
    · refine ⟨(-6 : Int32), τ, τ, ?_, ?_, hRτ⟩
      · show fn_X8_holds σ x = _
        rw [cl, fn_X6_rowAt]
        by_cases c0 : x < 0
        · rw [if_pos c0, Option.bind_some]
        · rw [if_neg c0, t2.1]
          rw [Int32.lt_iff_toInt_lt, Int32.toInt_zero] at c0
          have hx2 : ¬ ((0 : Nat) ≤ x.toInt ∧ x.toInt ≤ (99 : Nat)) := hx
          have : nI R.length ≤ x := by
            rw [Int32.le_iff_toInt_le, nI_toInt (by omega)]
            omega
          rw [if_pos this, Option.bind_some]
      · show (fn_X9_holds τ x).map _ = _
        rw [e0, k2 (fun k e hk2 => by
          apply Classical.byContradiction
          intro q
          apply hx
          rw [← e]
          unfold pr
          rw [nI_toInt hk2]
          omega), Option.bind_some]
        show (if x = ((-1 : Int32)) then some (nI R.length) else some ((-6 : Int32))).map _ = _
        rw [if_neg c]
        rfl
