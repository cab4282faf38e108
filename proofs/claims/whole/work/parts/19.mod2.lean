theorem px_gi {α : Type} {k N : Nat} {a b : α} (h : k < N) (hN : N < 2 ^ 31) : (if nI k < 0 ∨ N ≤ k then a else b) = b := if_neg (fun q => q.elim (nI_pos (by omega)) (by omega))
/-- of the reference's own object only these places, and its debts, were written -/
def pFm (L : List Nat) (σ τ : dc_HP) : Prop := (∀ c j, ¬ (c = 57 ∨ (c = 55 ∧ j ∈ L)) → τ.1 c j = σ.1 c j) ∧ τ.2 = σ.2
theorem pFm.rf {L : List Nat} {σ : dc_HP} : pFm L σ σ := ⟨fun _ _ _ => rfl, rfl⟩
theorem pFm.tr {L : List Nat} {σ τ υ : dc_HP} (h : pFm L σ τ) (g : pFm L τ υ) : pFm L σ υ := ⟨fun c j q => (g.1 c j q).trans (h.1 c j q), g.2.trans h.2⟩
theorem pFm.mono {L L' : List Nat} {σ τ : dc_HP} (h : pFm L σ τ) (hs : ∀ x ∈ L, x ∈ L') : pFm L' σ τ := ⟨fun c j q => h.1 c j (fun z => q (z.imp id (fun y => ⟨y.1, hs _ y.2⟩))), h.2⟩
theorem pFm.w57 {L : List Nat} {σ τ : dc_HP} (h : pFm L σ τ) {j : Nat} {v : Int32} : pFm L σ (dc_wI τ 57 j v) := ⟨fun c i q => by
  have : c ≠ 57 := fun e => q (Or.inl e)
  simp only [dc_wI, this, false_and, if_false]
  exact h.1 c i q, h.2⟩
theorem pFm.w55 {L : List Nat} {σ τ : dc_HP} (h : pFm L σ τ) {j : Nat} {v : Int32} (hj : j ∈ L) : pFm L σ (dc_wI τ 55 j v) := ⟨fun c i q => by
  have : ¬ (c = 55 ∧ i = j) := fun e => q (Or.inr ⟨e.1, by rw [e.2]; exact hj⟩)
  simp only [dc_wI, this, if_false]
  exact h.1 c i q, h.2⟩
theorem pM.de_any {σ : dc_HP} {V : pV} (h : pM σ V) {k : Nat} (hk : pth V k = false) (x : Int32) : pM (dc_wI σ 57 k x) V := by
  obtain ⟨hm, sm, h0, h1, h2, h3, h4, h5, h6, h7⟩ := h
  refine ⟨hm, sm, by simpa [dc_wI] using h0, by simpa [dc_wI] using h1, by simpa [dc_wI] using h2, by simpa [dc_wI] using h3, fun j hj ht => ?_, fun p hp v hv => by simpa [dc_wI] using h5 p hp v hv, fun p hp => by simpa [dc_wI] using h6 p hp, fun p hp => by simpa [dc_wI] using h7 p hp⟩
  obtain ⟨g1, g2, g3, g4⟩ := h4 j hj ht
  have e : j ≠ k := fun e => by subst e; rw [hk] at ht; cases ht
  exact ⟨g1, g2, by simpa [dc_wI] using g3, by simpa [dc_wI, e] using g4⟩
theorem pM.congr {σ : dc_HP} {V W : pV} (h : pM σ V) (e0 : pth W = pth V) (e1 : pho W = pho V) (e2 : psa W = psa V) (e3 : pev W = pev V) (e4 : pvo W = pvo V) (e5 : ∀ k, k < 8 → pth V k = true → pde W k = pde V k) (e6 : pnd W = pnd V) (e7 : pba W = pba V) (e8 : ppy W = ppy V) : pM σ W := by
  obtain ⟨hm, sm, h0, h1, h2, h3, h4, h5, h6, h7⟩ := h
  refine ⟨hm, sm, by rw [e0]; exact h0, h1, h2, by rw [e3]; exact h3, fun k hk ht => ?_, by rw [e6]; exact h5, by rw [e7]; exact h6, by rw [e8]; exact h7⟩
  rw [e0] at ht
  obtain ⟨g1, g2, g3, g4⟩ := h4 k hk ht
  exact ⟨by rw [e1]; exact g1, by rw [e2]; exact g2, by rw [e4]; exact g3, by rw [e5 k hk ht]; exact g4⟩
theorem pM.sa {σ : dc_HP} {V : pV} (h : pM σ V) {k : Nat} (hk : k < 8) : pM (dc_wI σ 55 2 (σ.1 55 2 ||| (nI 1 <<< (nI k &&& 31)))) (pSsa V (fun j => decide (j = k) || psa V j)) := by
  obtain ⟨hm, sm, h0, h1, h2, h3, h4, h5, h6, h7⟩ := h
  refine ⟨hm, fun j => decide (j = k) || sm j, by simpa [dc_wI] using h0, by simpa [dc_wI] using h1, ?_, by simpa [dc_wI] using h3, fun j hj ht => ?_, fun p hp v hv => by simpa [dc_wI] using h5 p hp v hv, fun p hp => by simpa [dc_wI] using h6 p hp, fun p hp => by simpa [dc_wI] using h7 p hp⟩
  · rw [h2, px_set _ (by decide) hk]; simp [dc_wI]
  · obtain ⟨g1, g2, g3, g4⟩ := h4 j hj ht
    exact ⟨g1, by show (_ || _) = (_ || _); rw [g2], by simpa [dc_wI] using g3, by simpa [dc_wI] using g4⟩
theorem pM.ho {σ : dc_HP} {V : pV} (h : pM σ V) {k : Nat} (hk : k < 8) : pM (dc_wI σ 55 1 (σ.1 55 1 ^^^ (nI 1 <<< (nI k &&& 31)))) (pSho V (fun j => if j = k then !pho V j else pho V j)) := by
  obtain ⟨hm, sm, h0, h1, h2, h3, h4, h5, h6, h7⟩ := h
  refine ⟨fun j => if j = k then !hm j else hm j, sm, by simpa [dc_wI] using h0, ?_, by simpa [dc_wI] using h2, by simpa [dc_wI] using h3, fun j hj ht => ?_, fun p hp v hv => by simpa [dc_wI] using h5 p hp v hv, fun p hp => by simpa [dc_wI] using h6 p hp, fun p hp => by simpa [dc_wI] using h7 p hp⟩
  · rw [h1, px_tog _ (by decide) hk]; simp [dc_wI]
  · obtain ⟨g1, g2, g3, g4⟩ := h4 j hj ht
    exact ⟨by show (if j = k then _ else _) = (if j = k then _ else _); rw [g1], g2, by simpa [dc_wI] using g3, by simpa [dc_wI] using g4⟩
theorem pM.even {σ : dc_HP} {V : pV} (h : pM σ V) {x : Int32} (hx : x = nI (pev V + 1)) : pM (dc_wI (dc_wI σ 55 2 (nI 0)) 55 3 x) (pSev (pSsa V (fun _ => false)) (pev V + 1)) := by
  obtain ⟨hm, sm, h0, h1, h2, h3, h4, h5, h6, h7⟩ := h
  refine ⟨hm, fun _ => false, by simpa [dc_wI] using h0, by simpa [dc_wI] using h1, ?_, ?_, fun j hj ht => ?_, fun p hp v hv => by simpa [dc_wI] using h5 p hp v hv, fun p hp => by simpa [dc_wI] using h6 p hp, fun p hp => by simpa [dc_wI] using h7 p hp⟩
  · rw [show pm (fun _ => false) 8 = 0 by decide]; simp [dc_wI]
  · rw [hx]; simp [dc_wI, pev, pSev]
  · obtain ⟨g1, g2, g3, g4⟩ := h4 j hj ht
    exact ⟨g1, rfl, by simpa [dc_wI] using g3, by simpa [dc_wI] using g4⟩
theorem pl_mone {σ : dc_HP} {V : pV} (h : pM σ V) (ho : pOk V) {v : Nat} (hv : v < 4) (w : Int32) : ∀ d i n, i + d = 8 → d < n → fn_X9_singOne_L6 σ (nI v) w n (qen (qbest (qrdy V v) (pde V) i)) (nI i) = some (qen (qbest (qrdy V v) (pde V) 8)) := by
  intro d
  induction d with
  | zero =>
    intro i n hi hn
    obtain ⟨m, rfl⟩ : ∃ m, n = m + 1 := ⟨n - 1, by omega⟩
    obtain rfl : i = 8 := by omega
    unfold fn_X9_singOne_L6
    rw [if_pos (nI_le (by omega) (by omega))]
  | succ d ih =>
    intro i n hi hn
    obtain ⟨m, rfl⟩ : ∃ m, n = m + 1 := ⟨n - 1, by omega⟩
    have g := ih (i + 1) m (by omega) (by omega)
    have hd := ho.2.2.1 i (by omega)
    obtain ⟨hm, sm, h0, h1, h2, h3, h4, -⟩ := id h
    have stay : qrdy V v i = false → qbest (qrdy V v) (pde V) (i + 1) = qbest (qrdy V v) (pde V) i := by
      intro q
      rw [qbest, if_neg]
      rw [q]; simp
    unfold fn_X9_singOne_L6
    rw [if_neg (nI_ge (by omega) (by decide)), pm_may h ho (by omega) hv, Option.bind_some, nI_add]
    cases c : qmay V v i with
    | false =>
      rw [if_pos (by simp [px_eq0]), Option.bind_some, if_pos nI_0]
      rw [stay (by rw [qrdy_of, c]; rfl)] at g
      exact g
    | true =>
      have ht : pth V i = true := by
        simp only [qmay, Bool.and_eq_true] at c
        exact c.1.1.2
      rw [if_neg (by simp [px_eq0]), px_gg (by omega) (by decide), nI_clamp (by omega), (h4 i (by omega) ht).2.2.2]
      by_cases c2 : pde V i = 0
      · rw [if_pos ((px_le0 (by omega)).mpr c2), Option.bind_some, if_pos nI_0]
        rw [stay (by rw [qrdy_of, c]; simp [c2])] at g
        exact g
      · have hr : qrdy V v i = true := by
          rw [qrdy_of, c]
          have : 0 < pde V i := by omega
          simp [this]
        rw [if_neg (fun q => c2 ((px_le0 (by omega)).mp q)), Option.bind_some, if_neg (by simp [px_eq0]), px_gi (by omega) (by decide)]
        cases hq : qbest (qrdy V v) (pde V) i with
        | none =>
          have e : qbest (qrdy V v) (pde V) (i + 1) = some i := by
            rw [qbest, if_pos ⟨hr, fun j hj => by rw [hq] at hj; cases hj⟩]
          rw [e] at g
          rw [if_pos (show qen none < 0 by decide)]
          exact g
        | some j =>
          obtain ⟨hj, hj2⟩ := qbest_in hq
          have htj := (qrdy_pos hj2).2
          have hdj := ho.2.2.1 j (by omega)
          show (if nI j < 0 then _ else (if nI j < 0 ∨ 8 ≤ (nI j).toNatClampNeg then _ else (if nI (pde V i) ≤ σ.1 57 (nI j).toNatClampNeg then _ else _))) = _
          rw [if_neg (nI_pos (by omega)), px_gg (by omega) (by decide), nI_clamp (by omega), (h4 j (by omega) htj).2.2.2]
          by_cases c3 : pde V i ≤ pde V j
          · have e : qbest (qrdy V v) (pde V) (i + 1) = some j := by
              rw [qbest, if_neg, hq]
              rintro ⟨-, q⟩
              have := q j hq
              omega
            rw [e] at g
            rw [if_pos (nI_le c3 (by omega))]
            exact g
          · have e : qbest (qrdy V v) (pde V) (i + 1) = some i := by
              rw [qbest, if_pos ⟨hr, fun j' hj' => by rw [hq] at hj'; cases hj'; omega⟩]
            rw [e] at g
            rw [if_neg (nI_ge (by omega) (by omega))]
            exact g
theorem pm_one {σ : dc_HP} {s : pT} (h : pMS σ s) (ho : pOk s.1) {v w : Nat} (hv : v < 4) (hw : w ≤ 540) (hex : 0 < pc (qrdy s.1 v) 8) : ∃ τ, fn_X9_singOne σ (nI v) (nI w) = some τ ∧ pMS τ (qsing1 v w s) ∧ pFm [1, 2, 3, 18] σ τ := by
  obtain ⟨h, h18⟩ := h
  have e := pl_mone h ho hv (nI w) 8 0 200 rfl (by decide)
  unfold fn_X9_singOne
  rw [show qen (qbest (qrdy s.1 v) (pde s.1) 0) = (-6 : Int32) from rfl] at e
  rw [e, Option.bind_some]
  unfold qsing1
  cases hq : qbest (qrdy s.1 v) (pde s.1) 8 with
  | none =>
    exfalso
    have h1 := qbest_ex hq
    have : pc (qrdy s.1 v) 8 = pc (fun _ => false) 8 := pc_congr h1
    rw [this] at hex
    exact absurd hex (by decide)
  | some k =>
    obtain ⟨hk, hk2⟩ := qbest_in hq
    have ht := (qrdy_pos hk2).2
    have hd := ho.2.2.1 k hk
    obtain ⟨hm, sm, h0, h1, h2, h3, h4, -⟩ := id h
    rw [show qen (some k) = nI k from rfl]
    dsimp only
    rw [px_gg hk (by decide)]
    have e3 : (if nI w ≤ σ.1 57 (nI k).toNatClampNeg then some (nI w) else if nI k < 0 ∨ 8 ≤ (nI k).toNatClampNeg then none else some (σ.1 57 (nI k).toNatClampNeg)) = some (nI (min w (pde s.1 k))) := by
      rw [px_gg hk (by decide), nI_clamp (by omega), (h4 k hk ht).2.2.2]
      by_cases c : w ≤ pde s.1 k
      · rw [if_pos (nI_le c (by omega)), Nat.min_eq_left c]
      · rw [if_neg (nI_ge (by omega) (by omega)), Nat.min_eq_right (by omega)]
    rw [e3, Option.bind_some, px_gg hk (by decide), px_gg hk (by decide), nI_clamp (by omega), (h4 k hk ht).2.2.2, pk_sub (Nat.min_le_right _ _)]
    unfold dc_let
    have g1 := h.de k (pde s.1 k - min w (pde s.1 k))
    refine ⟨_, rfl, ⟨?_, ?_⟩, ((pFm.rf.w57).w55 (by decide)).w55 (by decide)⟩
    · refine pM.sa (V := pSde s.1 _) (g1.other (fun j hj => ?_) (fun c j hc _ => ?_)) hk
      · have : j ≠ 18 := by omega
        simp [dc_wI, this]
      · have : c ≠ 55 := by omega
        simp [dc_wI, this]
    · have e4 : (dc_wI σ 57 k (nI (pde s.1 k - min w (pde s.1 k)))).1 55 18 = nI s.2 := by simpa [dc_wI] using h18
      simp only [e4, nI_add]
      simp [dc_wI]
theorem pc_drop {f g : Nat → Bool} {k : Nat} (hf : f k = true) (hg : ∀ j, g j = (f j && !decide (j = k))) : ∀ n, k < n → pc g n + 1 = pc f n
  | 0, h => by omega
  | n + 1, h => by
    rw [pc, pc]
    by_cases e : k = n
    · subst e
      have e1 : pc g k = pc f k := by
        apply pc_congr
        intro j hj
        rw [hg]
        have : j ≠ k := by omega
        simp [this]
      rw [e1, hg, hf]
      simp
    · have := pc_drop hf hg n (by omega)
      have e2 : g n = f n := by
        rw [hg]
        have : n ≠ k := by omega
        simp [this]
      rw [e2]
      omega
theorem qrdy_sing1 {v w : Nat} {s : pT} {k : Nat} (hq : qbest (qrdy s.1 v) (pde s.1) 8 = some k) (v' : Nat) : ∀ j, qrdy (qsing1 v w s).1 v' j = (qrdy s.1 v' j && !decide (j = k)) := by
  intro j
  unfold qsing1
  rw [hq]
  show (qmay _ v' j && !qfree _ j) = _
  unfold qrdy
  by_cases e : j = k
  · subst e
    simp [qmay, psa, pSsa]
  · simp [qmay, qfree, psa, pSsa, pde, pSde, pu, e, pvo, pth, pho]
theorem qsing1_cnt {v w : Nat} {s : pT} (hex : 0 < pc (qrdy s.1 v) 8) : pc (qrdy (qsing1 v w s).1 v) 8 + 1 = pc (qrdy s.1 v) 8 ∧ ∀ v', v' ≠ v → pc (qrdy (qsing1 v w s).1 v') 8 = pc (qrdy s.1 v') 8 := by
  cases hq : qbest (qrdy s.1 v) (pde s.1) 8 with
  | none =>
    exfalso
    have h1 := qbest_ex hq
    have : pc (qrdy s.1 v) 8 = pc (fun _ => false) 8 := pc_congr h1
    rw [this] at hex
    exact absurd hex (by decide)
  | some k =>
    obtain ⟨hk, hk2⟩ := qbest_in hq
    refine ⟨pc_drop hk2 (qrdy_sing1 hq v) 8 hk, fun v' hv' => pc_congr (fun j hj => ?_)⟩
    rw [qrdy_sing1 hq v' j]
    by_cases e : j = k
    · subst e
      have h3 : pvo s.1 j = v := by
        simp only [qrdy, qmay, Bool.and_eq_true, decide_eq_true_eq] at hk2
        exact hk2.1.1.1.1
      have : qrdy s.1 v' j = false := by
        simp only [qrdy, qmay, h3]
        have : v ≠ v' := fun q => hv' q.symm
        simp [this]
      rw [this]; rfl
    · simp [e]
