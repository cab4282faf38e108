theorem op_programme (x y : Int32) : pRd (fun σ => fn_X8_programme σ x y) (fun σ => fn_X9_programme σ x y) := by
  intro σ hR
  obtain ⟨G, ho, hc, hm⟩ := hR
  have n1 : ¬ nI 1 = 0 := by decide
  by_cases hx : pr x 0 99
  · have e1 := (px_within (x := x) (lo := 0) (hi := 99) (by decide) (by decide)).1 hx
    have f1 := (px_in (x := x) (lo := 0) (hi := 99) (L := 0) (H := 99) (by decide) (by decide)).1 hx
    by_cases hy : pr y 0 1
    · have e2 := (px_within (x := y) (lo := 0) (hi := 1) (by decide) (by decide)).1 hy
      have f2 := (px_in (x := y) (lo := 0) (hi := 1) (L := 0) (H := 1) (by decide) (by decide)).1 hy
      obtain ⟨c, hc9, rfl⟩ := pr_of (by decide) hx
      have z0 : qps G.1 0 6 = 0 := by simp [qps]
      have st : qpg G.1 c 64 0 0 = qpg G.1 c 63 1 0 := by
        rw [qpg]
        by_cases q : c < qbs G.1 0 6
        · rw [if_pos q]
        · rw [if_neg q, if_pos (Nat.le_refl _)]
      have a := pl_prog hc.1 ho.1 hc9 y 64 0 200 0 rfl (by decide) (by decide)
      obtain ⟨b, b2⟩ := pl_mprog hm.1 ho.1 hc9 y 63 1 200 0 rfl (by decide) (by decide)
      rw [z0, st] at a
      refine ⟨if y = 0 then nI (qps G.1 (qpg G.1 c 63 1 0) 6) else nI (qpg G.1 c 63 1 0), ?_, ?_⟩
      · simp only [fn_X8_programme, e1, e2, Option.bind_some, n1, if_false, a]
        split <;> rfl
      · simp only [fn_X9_programme, f1, f2, Option.bind_some, n1, if_false, b, pm_pays hm.1 b2]
        split <;> rfl
    · refine ⟨(-2 : Int32), ?_, ?_⟩
      · simp only [fn_X8_programme, e1, (px_within (x := y) (lo := 0) (hi := 1) (by decide) (by decide)).2 hy, Option.bind_some, n1, if_false]
        rw [if_pos nI_0]
      · simp only [fn_X9_programme, f1, (px_in (x := y) (lo := 0) (hi := 1) (L := 0) (H := 1) (by decide) (by decide)).2 hy, Option.bind_some, n1, if_false]
        rw [if_pos nI_0]
  · refine ⟨(-2 : Int32), ?_, ?_⟩
    · simp only [fn_X8_programme, (px_within (x := x) (lo := 0) (hi := 99) (by decide) (by decide)).2 hx, Option.bind_some]
      rw [if_pos nI_0]
    · simp only [fn_X9_programme, (px_in (x := x) (lo := 0) (hi := 99) (L := 0) (H := 99) (by decide) (by decide)).2 hx, Option.bind_some]
      rw [if_pos nI_0]
