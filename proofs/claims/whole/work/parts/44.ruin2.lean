def qfr2 (V : pV) (v : Nat) : Nat → Bool := fun j => qmay V v j && decide (pde V j = 0)
theorem pl_mruin {σ : dc_HP} {V : pV} (h : pM σ V) (ho : pOk V) {v w : Nat} (hv : v < 4) (hw : w ≤ 8) : ∀ d i n, i + d = 8 → d < n → ∃ j, j ≤ 8 ∧ qtk (qfr2 V v) w j = qtk (qfr2 V v) w 8 ∧ fn_X9_ruined_L8 σ (nI v) n (nI (pm (fun j => decide (j < i) && qsl (qfr2 V v) w j) 8)) (nI (w - qtk (qfr2 V v) w i)) (nI i) = some (nI (pm (qsl (qfr2 V v) w) 8), nI (w - qtk (qfr2 V v) w 8)) := by
  intro d
  induction d with
  | zero =>
    intro i n hi hn
    obtain ⟨m, rfl⟩ : ∃ m, n = m + 1 := ⟨n - 1, by omega⟩
    obtain rfl : i = 8 := by omega
    unfold fn_X9_ruined_L8
    rw [if_pos (nI_le (Nat.le_refl 8) (by decide)), pm_all]
    exact ⟨8, Nat.le_refl _, rfl, rfl⟩
  | succ d ih =>
    intro i n hi hn
    obtain ⟨m, rfl⟩ : ∃ m, n = m + 1 := ⟨n - 1, by omega⟩
    have hl := qtk_le (qfr2 V v) w i
    unfold fn_X9_ruined_L8
    rw [if_neg (nI_ge (by omega) (by decide))]
    by_cases c0 : w ≤ qtk (qfr2 V v) w i
    · -- nobody more is taken
      have hf : ∀ k, qtk (qfr2 V v) w (i + k) = qtk (qfr2 V v) w i := by
        intro k
        induction k with
        | zero => rfl
        | succ k ihk =>
          have z : ¬ (qfr2 V v (i + k) && decide (qtk (qfr2 V v) w (i + k) < w)) = true := by
            rw [Bool.and_eq_true, decide_eq_true_iff, ihk]
            intro q
            have := q.2
            omega
          rw [← Nat.add_assoc, qtk, if_neg z]
          exact ihk
      have h8 := hf (d + 1)
      rw [hi] at h8
      rw [if_pos ((px_le0 (by omega)).mpr (by omega)), h8]
      refine ⟨8, Nat.le_refl _, h8, ?_⟩
      have em : pm (fun j => decide (j < i) && qsl (qfr2 V v) w j) 8 = pm (qsl (qfr2 V v) w) 8 := by
        apply pm_congr
        intro j hj
        by_cases e : j < i
        · simp [e]
        · have := hf (j - i)
          rw [show i + (j - i) = j by omega] at this
          have z : ¬ qtk (qfr2 V v) w j < w := by omega
          simp [e, qsl, z]
      rw [em]
    · rw [if_neg (fun q => c0 (by have := (px_le0 (by omega)).mp q; omega)), pm_may h ho (by omega) hv, Option.bind_some, nI_add]
      cases c : qmay V v i with
      | false =>
        have e1 : qtk (qfr2 V v) w (i + 1) = qtk (qfr2 V v) w i := by rw [qtk, if_neg]; · rfl
                                                                      · simp [qfr2, c]
        have := ih (i + 1) m (by omega) (by omega)
        rw [e1, ← pm_acc0 (g := qsl (qfr2 V v) w) (by simp [qsl, qfr2, c])] at this
        rw [if_pos (by decide)]
        exact this
      | true =>
        have ht : pth V i = true := by unfold qmay at c; simp at c; exact c.1.1.2
        have e57 : σ.1 57 i = nI (pde V i) := by
          obtain ⟨_, _, _, _, _, _, h4, _, _, _⟩ := h
          exact (h4 i (by omega) ht).2.2.2
        have hd := ho.2.2.1 i (by omega)
        rw [if_neg (by decide), px_gg (by omega) (by decide), nI_clamp (by omega), e57]
        by_cases c3 : pde V i = 0
        · have e1 : qtk (qfr2 V v) w (i + 1) = qtk (qfr2 V v) w i + 1 := by rw [qtk, if_pos]; simp [qfr2, c, c3]; omega
          have := ih (i + 1) m (by omega) (by omega)
          rw [e1, ← pm_acc1 (g := qsl (qfr2 V v) w) (by simp [qsl, qfr2, c, c3]; omega)] at this
          rw [if_pos ((px_eq0 (by omega)).mpr c3), px_set _ (by decide) (by omega), show nI (w - qtk (qfr2 V v) w i) + (-1 : Int32) = nI (w - (qtk (qfr2 V v) w i + 1)) from by
            obtain ⟨q, hq⟩ : ∃ q, w - qtk (qfr2 V v) w i = q + 1 := ⟨w - qtk (qfr2 V v) w i - 1, by omega⟩
            rw [hq, show w - (qtk (qfr2 V v) w i + 1) = q by omega]
            have hq8 : q < 8 := by omega
            have : ∀ q, q < 8 → nI (q + 1) + (-1 : Int32) = nI q := by decide
            exact this q hq8]
          exact this
        · have e1 : qtk (qfr2 V v) w (i + 1) = qtk (qfr2 V v) w i := by
            rw [qtk, if_neg]
            · rfl
            · simp [qfr2, c3]
          have := ih (i + 1) m (by omega) (by omega)
          rw [e1, ← pm_acc0 (g := qsl (qfr2 V v) w) (by simp [qsl, qfr2, c3])] at this
          rw [if_neg (fun q => c3 ((px_eq0 (by omega)).mp q))]
          exact this
