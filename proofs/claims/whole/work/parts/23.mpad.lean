/-! the reference reads its pad -/
def pW (W : Nat → Nat → Prop) (σ τ : dc_HP) : Prop := (∀ c j, ¬ W c j → τ.1 c j = σ.1 c j) ∧ τ.2 = σ.2
theorem pW.rf {W : Nat → Nat → Prop} {σ : dc_HP} : pW W σ σ := ⟨fun _ _ _ => rfl, rfl⟩
theorem pW.tr {W : Nat → Nat → Prop} {σ τ υ : dc_HP} (h : pW W σ τ) (g : pW W τ υ) : pW W σ υ := ⟨fun c j q => (g.1 c j q).trans (h.1 c j q), g.2.trans h.2⟩
theorem pW.mono {W W' : Nat → Nat → Prop} {σ τ : dc_HP} (h : pW W σ τ) (hs : ∀ c j, W c j → W' c j) : pW W' σ τ := ⟨fun c j q => h.1 c j (fun z => q (hs c j z)), h.2⟩
theorem pW.w {W : Nat → Nat → Prop} {σ τ : dc_HP} (h : pW W σ τ) {k j : Nat} {v : Int32} (hk : W k j) : pW W σ (dc_wI τ k j v) := ⟨fun c i q => by
  have : ¬ (c = k ∧ i = j) := fun e => q (by rw [e.1, e.2]; exact hk)
  simp only [dc_wI, this, if_false]
  exact h.1 c i q, h.2⟩
def Wf (c j : Nat) : Prop := c = 64 ∨ c = 65 ∨ c = 66 ∨ (c = 55 ∧ j = 17)
def pQ (σ : dc_HP) (P : pPd) : Prop := σ.1 55 13 = nI P.2 ∧ ∀ i, i < P.2 → σ.1 63 i = nI (P.1 i)
theorem pQ.other {σ τ : dc_HP} {P : pPd} (h : pQ σ P) (h0 : τ.1 55 13 = σ.1 55 13) (h1 : ∀ i, i < P.2 → τ.1 63 i = σ.1 63 i) : pQ τ P := ⟨h0.trans h.1, fun i hi => (h1 i hi).trans (h.2 i hi)⟩
theorem pQ.wf {σ τ : dc_HP} {P : pPd} (h : pQ σ P) (g : pW Wf σ τ) : pQ τ P := h.other (g.1 55 13 (by unfold Wf; omega)) (fun i _ => g.1 63 i (by unfold Wf; omega))
/-- the acts that it holds -/
def pH (σ : dc_HP) (A : List pA) : Prop := σ.1 55 17 = nI A.length ∧ ∀ k a, A[k]? = some a → σ.1 64 k = nI a.1 ∧ σ.1 65 k = nI a.2.1 ∧ σ.1 66 k = nI a.2.2
theorem pm_close {σ : dc_HP} {a k v : Nat} (h : σ.1 55 17 = nI a) (ha : a < 60) : fn_X9_close σ (nI k) (nI v) = some (nI 0, dc_wI (dc_wI (dc_wI σ 64 a (nI k)) 66 a (nI v)) 55 17 (nI (a + 1))) := by
  unfold fn_X9_close
  rw [h, px_gg ha (by decide), nI_clamp (by omega)]
  simp only [dc_let]
  have e : (dc_wI σ 64 a (nI k)).1 55 17 = nI a := by simpa [dc_wI] using h
  rw [e, px_gg ha (by decide), nI_clamp (by omega)]
  have e2 : (dc_wI (dc_wI σ 64 a (nI k)) 66 a (nI v)).1 55 17 = nI a := by simpa [dc_wI] using h
  rw [e2, nI_add]
/-- an act more: who was written ahead -/
theorem pH.app {σ : dc_HP} {A : List pA} {k w v : Nat} (h : pH σ A) (hw : σ.1 65 A.length = nI w) : pH (dc_wI (dc_wI (dc_wI σ 64 A.length (nI k)) 66 A.length (nI v)) 55 17 (nI (A.length + 1))) (A ++ [(k, w, v)]) := by
  refine ⟨by simp [dc_wI], fun j a hj => ?_⟩
  by_cases e : j < A.length
  · rw [List.getElem?_append_left e] at hj
    have n : j ≠ A.length := by omega
    have := h.2 j a hj
    simpa [dc_wI, n] using this
  · have hl := (List.getElem?_eq_some_iff.mp hj).1
    rw [List.length_append, List.length_singleton] at hl
    obtain rfl : j = A.length := by omega
    rw [List.getElem?_append_right (Nat.le_refl _), Nat.sub_self] at hj
    cases hj
    simp [dc_wI, hw]
theorem pH.who {σ : dc_HP} {A : List pA} (h : pH σ A) (x : Int32) : pH (dc_wI σ 65 A.length x) A := by
  refine ⟨by have := h.1; simpa [dc_wI] using this, fun j a hj => ?_⟩
  have hl := (List.getElem?_eq_some_iff.mp hj).1
  have n : j ≠ A.length := by omega
  have := h.2 j a hj
  simpa [dc_wI, n] using this
theorem px_gj {k N : Nat} (h : k < N) (hN : N < 2 ^ 31) : (nI k < 0 ∨ N ≤ k) = False := by
  rw [eq_iff_iff]
  exact ⟨fun q => q.elim (nI_pos (by omega)) (by omega), fun q => q.elim⟩
theorem pm_begin {σ : dc_HP} {A : List pA} (h : pH σ A) (hA : A.length < 60) {c : Nat} (hc : c ≤ 126) :
    (48 ≤ c ∧ c ≤ 53 → ∃ τ, fn_X9_begin σ (nI c) = some (nI 0, τ) ∧ pW Wf σ τ ∧ pH τ (A ++ [(0, c - 48, 0)])) ∧
    (c = 46 → ∃ τ, fn_X9_begin σ (nI c) = some (nI 0, τ) ∧ pW Wf σ τ ∧ pH τ (A ++ [(5, 0, 0)])) ∧
    (65 ≤ c ∧ c ≤ 72 → ∃ τ, fn_X9_begin σ (nI c) = some (nI 1, τ) ∧ pW Wf σ τ ∧ pH τ A ∧ τ.1 65 A.length = nI (c - 65)) ∧
    (¬ (48 ≤ c ∧ c ≤ 53) → c ≠ 46 → ¬ (65 ≤ c ∧ c ≤ 72) → ∃ τ, fn_X9_begin σ (nI c) = some ((-6 : Int32), τ) ∧ pW Wf σ τ) := by
  have w65 : ∀ x : Int32, pW Wf σ (dc_wI σ 65 A.length x) := fun x => pW.rf.w (Or.inr (Or.inl rfl))
  have wcl : ∀ (τ : dc_HP) (k v : Int32), pW Wf σ τ → pW Wf σ (dc_wI (dc_wI (dc_wI τ 64 A.length k) 66 A.length v) 55 17 (nI (A.length + 1))) := fun τ k v q => ((q.w (Or.inl rfl)).w (Or.inr (Or.inr (Or.inl rfl)))).w (Or.inr (Or.inr (Or.inr ⟨rfl, rfl⟩)))
  unfold fn_X9_begin
  rw [px_inN (lo := 48) (hi := 53) (by omega) (by decide) (by decide), px_inN (lo := 65) (hi := 72) (by omega) (by decide) (by decide), Option.bind_some, Option.bind_some, h.1]
  have z1 : (nI 1 = 0) = False := by simp [px_eq0]
  have z0 : (nI 0 = 0) = True := by simp [px_eq0]
  simp only [nI_clamp (show A.length < 2 ^ 31 by omega), px_gj hA (show 60 < 2 ^ 31 by decide), if_false, dc_let]
  refine ⟨fun q => ?_, fun q => ?_, fun q => ?_, fun q1 q2 q3 => ?_⟩
  · simp only [if_pos q, z1, if_false, Option.bind_some]
    rw [pk_sub (show 48 ≤ c by omega), pm_close ((h.who _).1) hA, Option.bind_some]
    exact ⟨_, rfl, wcl _ _ _ (w65 _), (h.who _).app (by simp [dc_wI])⟩
  · subst q
    have e1 : (if 48 ≤ 46 ∧ 46 ≤ 53 then 1 else 0 : Nat) = 0 := by decide
    have e2 : (if 65 ≤ 46 ∧ 46 ≤ 72 then 1 else 0 : Nat) = 0 := by decide
    simp only [e1, e2, z0, if_true, Option.bind_some]
    rw [pm_close ((h.who _).1) hA, Option.bind_some]
    exact ⟨_, rfl, wcl _ _ _ (w65 _), (h.who _).app (by simp [dc_wI])⟩
  · have q4 : ¬ (48 ≤ c ∧ c ≤ 53) := by omega
    have q5 : (nI c = nI 46) = False := by
      rw [eq_iff_iff, nI_eq (by omega) (by decide)]
      constructor
      · intro z; omega
      · intro z; exact z.elim
    simp only [if_pos q, if_neg q4, z0, z1, if_true, if_false, Option.bind_some, q5]
    rw [pk_sub (show 65 ≤ c by omega)]
    exact ⟨_, rfl, w65 _, h.who _, by simp [dc_wI]⟩
  · have q5 : (nI c = nI 46) = False := by
      rw [eq_iff_iff, nI_eq (by omega) (by decide)]
      constructor
      · intro z; exact q2 z
      · intro z; exact z.elim
    simp only [if_neg q1, if_neg q3, z0, if_true, if_false, Option.bind_some, q5]
    exact ⟨_, rfl, w65 _⟩
/-- one turn of its loop -/
theorem pl_mf1 {σ : dc_HP} {P : pPd} (h : pQ σ P) (hk : pPok P) {i due m : Nat} (hi : i < P.2) : fn_X9_fault_L9 (m + 1) (nI due) (nI i) σ = (fn_X9_readOn σ (nI due) (nI (qsg P i))).bind (fun r25 => (if 0 ≤ r25.1 then fn_X9_fault_L9 m r25.1 (nI (i + 1)) r25.2 else some (.inl (nI i, r25.2)))) := by
  have h60 := hk.1
  rw [fn_X9_fault_L9, h.1, if_neg (nI_ge hi (by omega)), px_gg (by omega) (by decide), nI_clamp (by omega), h.2 i hi, nI_add]
  unfold qsg
  rw [if_pos hi]
theorem pl_mf0 {σ : dc_HP} {P : pPd} (h : pQ σ P) (hk : pPok P) {i due m : Nat} (hi : P.2 ≤ i) (hi2 : i < 100) : fn_X9_fault_L9 (m + 1) (nI due) (nI i) σ = some (.inr (nI due, σ)) := by
  have h60 := hk.1
  rw [fn_X9_fault_L9, h.1, if_pos (nI_le hi (by omega))]
theorem qsg_0 {P : pPd} {i : Nat} (h : P.2 ≤ i) : qsg P i = 0 := if_neg (by omega)
theorem pl_mfault {P : pPd} (hk : pPok P) : ∀ f i m σ A, pQ σ P → pH σ A → A.length ≤ i → P.2 ≤ i + f → i < 70 → P.2 < i + m → 0 < m → ∃ τ, pW Wf σ τ ∧ (∀ L, qpar P f i = .inr L → fn_X9_fault_L9 m (nI 0) (nI i) σ = some (.inr (nI 0, τ)) ∧ pH τ (A ++ L)) ∧ (∀ p, qpar P f i = .inl p → (p < P.2 ∧ fn_X9_fault_L9 m (nI 0) (nI i) σ = some (.inl (nI p, τ))) ∨ (p = P.2 ∧ ∃ d, 1 ≤ d ∧ d ≤ 3 ∧ fn_X9_fault_L9 m (nI 0) (nI i) σ = some (.inr (nI d, τ)))) := by
  intro f
  have h60 := hk.1
  induction f with
  | zero =>
    intro i m σ A h hH hA h1 h2 hm hm0
    obtain ⟨m, rfl⟩ : ∃ n, m = n + 1 := ⟨m - 1, by omega⟩
    refine ⟨σ, pW.rf, fun L q => ?_, fun p q => (by cases q)⟩
    cases q
    rw [List.append_nil]
    exact ⟨pl_mf0 h hk (by omega) (by omega), hH⟩
  | succ f ih =>
    intro i m σ A h hH hA h1 h2 hm hm0
    obtain ⟨m, rfl⟩ : ∃ n, m = n + 1 := ⟨m - 1, by omega⟩
    rw [qpar]
    by_cases c : P.2 ≤ i
    · rw [if_pos c]
      refine ⟨σ, pW.rf, fun L q => ?_, fun p q => (by cases q)⟩
      cases q
      rw [List.append_nil]
      exact ⟨pl_mf0 h hk c (by omega), hH⟩
    rw [if_neg c]
    -- behind an act of l signs
    have go : ∀ (x : pA) (l m' : Nat) (τ : dc_HP), qstep P i = .inr (x, l) → 1 ≤ l → l ≤ 3 → m' + l = m + 1 → pW Wf σ τ → pH τ (A ++ [x]) → fn_X9_fault_L9 (m + 1) (nI 0) (nI i) σ = fn_X9_fault_L9 m' (nI 0) (nI (i + l)) τ → 0 < m' → ∃ τ, pW Wf σ τ ∧ (∀ L, (match (Sum.inr (x, l) : Nat ⊕ (pA × Nat)) with
      | .inl p => (.inl p : Nat ⊕ List pA)
      | .inr (a, l) => match qpar P f (i + l) with
        | .inl p => .inl p
        | .inr L => .inr (a :: L)) = .inr L → fn_X9_fault_L9 (m + 1) (nI 0) (nI i) σ = some (.inr (nI 0, τ)) ∧ pH τ (A ++ L)) ∧ (∀ p, (match (Sum.inr (x, l) : Nat ⊕ (pA × Nat)) with
      | .inl p => (.inl p : Nat ⊕ List pA)
      | .inr (a, l) => match qpar P f (i + l) with
        | .inl p => .inl p
        | .inr L => .inr (a :: L)) = .inl p → (p < P.2 ∧ fn_X9_fault_L9 (m + 1) (nI 0) (nI i) σ = some (.inl (nI p, τ))) ∨ (p = P.2 ∧ ∃ d, 1 ≤ d ∧ d ≤ 3 ∧ fn_X9_fault_L9 (m + 1) (nI 0) (nI i) σ = some (.inr (nI d, τ)))) := by
      intro x l m' τ hs l1 l2 hml w hH2 e hm'
      obtain ⟨υ, g1, g2, g3⟩ := ih (i + l) m' τ (A ++ [x]) (h.wf w) hH2 (by rw [List.length_append, List.length_singleton]; omega) (by omega) (by omega) (by omega) hm'
      refine ⟨υ, w.tr g1, fun L q => ?_, fun p q => ?_⟩
      · dsimp only at q
        cases hq : qpar P f (i + l) with
        | inl p => rw [hq] at q; cases q
        | inr L' =>
          rw [hq] at q
          cases q
          obtain ⟨z1, z2⟩ := g2 L' hq
          rw [List.append_assoc] at z2
          exact ⟨e.trans z1, z2⟩
      · dsimp only at q
        cases hq : qpar P f (i + l) with
        | inr L' => rw [hq] at q; cases q
        | inl p' =>
          rw [hq] at q
          cases q
          rw [e]
          exact g3 _ hq
    have hb := qsg_le hk i
    have hb1 := qsg_le hk (i + 1)
    have hb2 := qsg_le hk (i + 2)
    have hA60 : A.length < 60 := by omega
    obtain ⟨b1, b2, b3, b4⟩ := pm_begin hH hA60 hb
    have first : ∀ r τ, fn_X9_begin σ (nI (qsg P i)) = some (r, τ) → fn_X9_fault_L9 (m + 1) (nI 0) (nI i) σ = (if 0 ≤ r then fn_X9_fault_L9 m r (nI (i + 1)) τ else some (.inl (nI i, τ))) := by
      intro r τ e
      rw [pl_mf1 h hk (by omega), fn_X9_readOn, if_pos nI_0, e, Option.bind_some, Option.bind_some]
    have p1 : (0 : Int32) ≤ nI 0 := by decide
    by_cases c1 : 48 ≤ qsg P i ∧ qsg P i ≤ 53
    · obtain ⟨τ, e1, e2, e3⟩ := b1 c1
      have hs : qstep P i = .inr ((0, qsg P i - 48, 0), 1) := by unfold qstep; rw [if_pos c1]
      rw [hs]
      refine go _ 1 m τ hs (by omega) (by omega) (by omega) e2 e3 ?_ (by omega)
      rw [first _ _ e1, if_pos p1]
    by_cases c2 : qsg P i = 46
    · obtain ⟨τ, e1, e2, e3⟩ := b2 c2
      have hs : qstep P i = .inr ((5, 0, 0), 1) := by unfold qstep; rw [if_neg c1, if_pos c2]
      rw [hs]
      refine go _ 1 m τ hs (by omega) (by omega) (by omega) e2 e3 ?_ (by omega)
      rw [first _ _ e1, if_pos p1]
    by_cases c3 : 65 ≤ qsg P i ∧ qsg P i ≤ 72
    · obtain ⟨τ, e1, e2, e3, e4⟩ := b3 c3
      have hQ := h.wf e2
      have f1 : fn_X9_fault_L9 (m + 1) (nI 0) (nI i) σ = fn_X9_fault_L9 m (nI 1) (nI (i + 1)) τ := by rw [first _ _ e1, if_pos (by decide)]
      obtain ⟨m, rfl⟩ : ∃ n, m = n + 1 := ⟨m - 1, by omega⟩
      have wcl : ∀ (k v : Int32), pW Wf σ (dc_wI (dc_wI (dc_wI τ 64 A.length k) 66 A.length v) 55 17 (nI (A.length + 1))) := fun k v => ((e2.w (Or.inl rfl)).w (Or.inr (Or.inr (Or.inl rfl)))).w (Or.inr (Or.inr (Or.inr ⟨rfl, rfl⟩)))
      by_cases c9 : P.2 ≤ i + 1
      · -- the text ends behind the letter
        have hs : qstep P i = .inl (i + 1) := by
          unfold qstep
          rw [if_neg c1, if_neg c2, if_neg (fun q => q c3), qsg_0 c9]
          rfl
        rw [hs]
        refine ⟨τ, e2, fun L q => (by cases q), fun p q => ?_⟩
        cases q
        refine Or.inr ⟨by omega, 1, by omega, by omega, ?_⟩
        rw [f1, pl_mf0 hQ hk c9 (by omega)]
      have n1 : ∀ k : Nat, k < 2 ^ 31 → (nI (qsg P (i + 1)) = nI k ↔ qsg P (i + 1) = k) := fun k hk => nI_eq (by omega) hk
      have f2 : fn_X9_fault_L9 (m + 1) (nI 1) (nI (i + 1)) τ = (fn_X9_readOn τ (nI 1) (nI (qsg P (i + 1)))).bind (fun r25 => (if 0 ≤ r25.1 then fn_X9_fault_L9 m r25.1 (nI (i + 2)) r25.2 else some (.inl (nI (i + 1), r25.2)))) := pl_mf1 hQ hk (by omega)
      have f3 : fn_X9_readOn τ (nI 1) (nI (qsg P (i + 1))) = (if qsg P (i + 1) = 43 then some (nI 2, τ) else (if qsg P (i + 1) = 61 then some (nI 3, τ) else (if qsg P (i + 1) = 42 then some (nI 0, dc_wI (dc_wI (dc_wI τ 64 A.length (nI 2)) 66 A.length (nI 0)) 55 17 (nI (A.length + 1))) else (if qsg P (i + 1) = 120 then some (nI 0, dc_wI (dc_wI (dc_wI τ 64 A.length (nI 4)) 66 A.length (nI 0)) 55 17 (nI (A.length + 1))) else some ((-6 : Int32), τ))))) := by
        rw [fn_X9_readOn, if_neg (by simp [px_eq0]), if_neg (by simp [nI_eq]), if_neg (by simp [nI_eq]), pm_close e3.1 hA60, pm_close e3.1 hA60, Option.bind_some, Option.bind_some]
        simp only [n1 43 (by decide), n1 61 (by decide), n1 42 (by decide), n1 120 (by decide)]
      rw [f3] at f2
      by_cases c4 : qsg P (i + 1) = 42
      · have hs : qstep P i = .inr ((2, qsg P i - 65, 0), 2) := by unfold qstep; rw [if_neg c1, if_neg c2, if_neg (fun q => q c3), if_pos c4]
        rw [hs]
        refine go _ 2 m _ hs (by omega) (by omega) (by omega) (wcl (nI 2) (nI 0)) (e3.app e4) ?_ (by omega)
        rw [f1, f2, if_neg (by omega), if_neg (by omega), if_pos c4, Option.bind_some, if_pos p1]
      by_cases c5 : qsg P (i + 1) = 120
      · have hs : qstep P i = .inr ((4, qsg P i - 65, 0), 2) := by unfold qstep; rw [if_neg c1, if_neg c2, if_neg (fun q => q c3), if_neg c4, if_pos c5]
        rw [hs]
        refine go _ 2 m _ hs (by omega) (by omega) (by omega) (wcl (nI 4) (nI 0)) (e3.app e4) ?_ (by omega)
        rw [f1, f2, if_neg (by omega), if_neg (by omega), if_neg c4, if_pos c5, Option.bind_some, if_pos p1]
      by_cases c6 : qsg P (i + 1) = 43
      · rw [if_pos c6, Option.bind_some, if_pos (show (0 : Int32) ≤ nI 2 by decide)] at f2
        obtain ⟨m, rfl⟩ : ∃ n, m = n + 1 := ⟨m - 1, by omega⟩
        by_cases c8 : P.2 ≤ i + 2
        · have hs : qstep P i = .inl (i + 2) := by
            unfold qstep
            rw [if_neg c1, if_neg c2, if_neg (fun q => q c3), if_neg c4, if_neg c5, if_pos c6, qsg_0 c8]
            rfl
          rw [hs]
          refine ⟨τ, e2, fun L q => (by cases q), fun p q => ?_⟩
          cases q
          refine Or.inr ⟨by omega, 2, by omega, by omega, ?_⟩
          rw [f1, f2, pl_mf0 hQ hk c8 (by omega)]
        have f4 : fn_X9_fault_L9 (m + 1) (nI 2) (nI (i + 2)) τ = (fn_X9_readOn τ (nI 2) (nI (qsg P (i + 2)))).bind (fun r25 => (if 0 ≤ r25.1 then fn_X9_fault_L9 m r25.1 (nI (i + 3)) r25.2 else some (.inl (nI (i + 2), r25.2)))) := pl_mf1 hQ hk (by omega)
        rw [fn_X9_readOn, if_neg (by simp [px_eq0]), if_pos rfl, px_inN (lo := 49) (hi := 57) (by omega) (by decide) (by decide), Option.bind_some] at f4
        by_cases c7 : 49 ≤ qsg P (i + 2) ∧ qsg P (i + 2) ≤ 57
        · have hs : qstep P i = .inr ((1, qsg P i - 65, 10 * (qsg P (i + 2) - 48)), 3) := by unfold qstep; rw [if_neg c1, if_neg c2, if_neg (fun q => q c3), if_neg c4, if_neg c5, if_pos c6, if_pos c7]
          rw [hs]
          rw [if_pos c7, if_neg (by simp [px_eq0]), pk_sub (by omega), pk_mul, pm_close e3.1 hA60, Option.bind_some, Option.bind_some, if_pos p1] at f4
          refine go _ 3 m _ hs (by omega) (by omega) (by omega) (wcl (nI 1) (nI (10 * (qsg P (i + 2) - 48)))) (e3.app e4) ?_ (by omega)
          rw [f1, f2, f4]
        · have hs : qstep P i = .inl (i + 2) := by unfold qstep; rw [if_neg c1, if_neg c2, if_neg (fun q => q c3), if_neg c4, if_neg c5, if_pos c6, if_neg c7]
          rw [hs]
          rw [if_neg c7, if_pos nI_0, Option.bind_some, if_neg (show ¬ (0 : Int32) ≤ (-6 : Int32) by decide)] at f4
          refine ⟨τ, e2, fun L q => (by cases q), fun p q => ?_⟩
          cases q
          exact Or.inl ⟨by omega, by rw [f1, f2, f4]⟩
      by_cases c7 : qsg P (i + 1) = 61
      · rw [if_neg c6, if_pos c7, Option.bind_some, if_pos (show (0 : Int32) ≤ nI 3 by decide)] at f2
        obtain ⟨m, rfl⟩ : ∃ n, m = n + 1 := ⟨m - 1, by omega⟩
        by_cases c8 : P.2 ≤ i + 2
        · have hs : qstep P i = .inl (i + 2) := by
            unfold qstep
            rw [if_neg c1, if_neg c2, if_neg (fun q => q c3), if_neg c4, if_neg c5, if_neg c6, if_pos c7, qsg_0 c8]
            rfl
          rw [hs]
          refine ⟨τ, e2, fun L q => (by cases q), fun p q => ?_⟩
          cases q
          refine Or.inr ⟨by omega, 3, by omega, by omega, ?_⟩
          rw [f1, f2, pl_mf0 hQ hk c8 (by omega)]
        have f4 : fn_X9_fault_L9 (m + 1) (nI 3) (nI (i + 2)) τ = (fn_X9_readOn τ (nI 3) (nI (qsg P (i + 2)))).bind (fun r25 => (if 0 ≤ r25.1 then fn_X9_fault_L9 m r25.1 (nI (i + 3)) r25.2 else some (.inl (nI (i + 2), r25.2)))) := pl_mf1 hQ hk (by omega)
        rw [fn_X9_readOn, if_neg (by simp [px_eq0]), if_neg (by simp [nI_eq]), if_pos rfl, px_inN (lo := 65) (hi := 72) (by omega) (by decide) (by decide), Option.bind_some] at f4
        by_cases c10 : 65 ≤ qsg P (i + 2) ∧ qsg P (i + 2) ≤ 72
        · have hs : qstep P i = .inr ((3, qsg P i - 65, qsg P (i + 2) - 65), 3) := by unfold qstep; rw [if_neg c1, if_neg c2, if_neg (fun q => q c3), if_neg c4, if_neg c5, if_neg c6, if_pos c7, if_pos c10]
          rw [hs]
          rw [if_pos c10, if_neg (by simp [px_eq0]), pk_sub (by omega), pm_close e3.1 hA60, Option.bind_some, Option.bind_some, if_pos p1] at f4
          refine go _ 3 m _ hs (by omega) (by omega) (by omega) (wcl (nI 3) (nI (qsg P (i + 2) - 65))) (e3.app e4) ?_ (by omega)
          rw [f1, f2, f4]
        · have hs : qstep P i = .inl (i + 2) := by unfold qstep; rw [if_neg c1, if_neg c2, if_neg (fun q => q c3), if_neg c4, if_neg c5, if_neg c6, if_pos c7, if_neg c10]
          rw [hs]
          rw [if_neg c10, if_pos nI_0, Option.bind_some, if_neg (show ¬ (0 : Int32) ≤ (-6 : Int32) by decide)] at f4
          refine ⟨τ, e2, fun L q => (by cases q), fun p q => ?_⟩
          cases q
          exact Or.inl ⟨by omega, by rw [f1, f2, f4]⟩
      · have hs : qstep P i = .inl (i + 1) := by unfold qstep; rw [if_neg c1, if_neg c2, if_neg (fun q => q c3), if_neg c4, if_neg c5, if_neg c6, if_neg c7]
        rw [hs]
        rw [if_neg c6, if_neg c7, if_neg c4, if_neg c5, Option.bind_some, if_neg (show ¬ (0 : Int32) ≤ (-6 : Int32) by decide)] at f2
        refine ⟨τ, e2, fun L q => (by cases q), fun p q => ?_⟩
        cases q
        exact Or.inl ⟨by omega, by rw [f1, f2]⟩
    · obtain ⟨τ, e1, e2⟩ := b4 c1 c2 c3
      have hs : qstep P i = .inl i := by unfold qstep; rw [if_neg c1, if_neg c2, if_pos c3]
      rw [hs]
      refine ⟨τ, e2, fun L q => (by cases q), fun p q => ?_⟩
      cases q
      exact Or.inl ⟨by omega, by rw [first _ _ e1, if_neg (by decide)]⟩
theorem pm_fault {σ : dc_HP} {P : pPd} (h : pQ σ P) (hk : pPok P) : ∃ τ, pW Wf σ τ ∧ (∀ L, qpar P 61 0 = .inr L → fn_X9_fault σ = some ((-6 : Int32), τ) ∧ pH τ L) ∧ (∀ p, qpar P 61 0 = .inl p → p ≤ 60 ∧ fn_X9_fault σ = some (nI p, τ)) := by
  have h60 := hk.1
  have w0 : pW Wf σ (dc_wI σ 55 17 (nI 0)) := pW.rf.w (Or.inr (Or.inr (Or.inr ⟨rfl, rfl⟩)))
  have hH : pH (dc_wI σ 55 17 (nI 0)) [] := ⟨by simp [dc_wI], fun k a q => by simp at q⟩
  obtain ⟨τ, g1, g2, g3⟩ := pl_mfault hk 61 0 200 _ [] (h.wf w0) hH (Nat.le_refl 0) (by omega) (by omega) (by omega) (by decide)
  unfold fn_X9_fault
  simp only [dc_let]
  have hQ := (h.wf w0).wf g1
  refine ⟨τ, w0.tr g1, fun L q => ?_, fun p q => ?_⟩
  · obtain ⟨e1, e2⟩ := g2 L q
    rw [e1, Option.bind_some]
    exact ⟨rfl, e2⟩
  · rcases g3 p q with ⟨c, e⟩ | ⟨c, d, d1, d2, e⟩
    · rw [e, Option.bind_some]
      exact ⟨by omega, rfl⟩
    · rw [e, Option.bind_some]
      refine ⟨by omega, ?_⟩
      show (if nI d = 0 then _ else some (τ.1 55 13, τ)) = _
      rw [if_neg (fun z => absurd ((px_eq0 (by omega)).mp z) (by omega)), hQ.1, c]
