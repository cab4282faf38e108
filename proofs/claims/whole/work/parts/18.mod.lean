/-! the reference's choir -/
def pM (σ : dc_HP) (V : pV) : Prop := ∃ hm sm : Nat → Bool, σ.1 55 0 = nI (pm (pth V) 8) ∧ σ.1 55 1 = nI (pm hm 8) ∧ σ.1 55 2 = nI (pm sm 8) ∧ σ.1 55 3 = nI (pev V) ∧ (∀ k, k < 8 → pth V k = true → hm k = pho V k ∧ sm k = psa V k ∧ σ.1 56 k = nI (pvo V k) ∧ σ.1 57 k = nI (pde V k)) ∧ (∀ p, p < 6 → ∀ v, v < 4 → σ.1 58 (4 * p + v) = nI (pnd V p v)) ∧ (∀ p, p < 6 → σ.1 59 p = nI (pba V p)) ∧ (∀ p, p < 6 → σ.1 60 p = nI (ppy V p))
def pMS (σ : dc_HP) (s : pT) : Prop := pM σ s.1 ∧ σ.1 55 18 = nI s.2
theorem pM.de {σ : dc_HP} {V : pV} (h : pM σ V) (k d : Nat) : pM (dc_wI σ 57 k (nI d)) (pSde V (pu (pde V) k d)) := by
  obtain ⟨hm, sm, h0, h1, h2, h3, h4, h5, h6, h7⟩ := h
  refine ⟨hm, sm, by simpa [dc_wI] using h0, by simpa [dc_wI] using h1, by simpa [dc_wI] using h2, by simpa [dc_wI] using h3, fun j hj ht => ?_, fun p hp v hv => by simpa [dc_wI] using h5 p hp v hv, fun p hp => by simpa [dc_wI] using h6 p hp, fun p hp => by simpa [dc_wI] using h7 p hp⟩
  obtain ⟨g1, g2, g3, g4⟩ := h4 j hj ht
  refine ⟨g1, g2, by simpa [dc_wI] using g3, ?_⟩
  by_cases e : j = k
  · subst e; simp [dc_wI, pu, pde, pSde]
  · simpa [dc_wI, pu, e, pde, pSde] using g4
theorem pM.other {σ τ : dc_HP} {V : pV} (h : pM σ V) (h0 : ∀ j, j < 4 → τ.1 55 j = σ.1 55 j) (ha : ∀ c j, 56 ≤ c → c ≤ 60 → τ.1 c j = σ.1 c j) : pM τ V := by
  obtain ⟨hm, sm, g0, g1, g2, g3, g4, g5, g6, g7⟩ := h
  exact ⟨hm, sm, (h0 0 (by decide)).trans g0, (h0 1 (by decide)).trans g1, (h0 2 (by decide)).trans g2, (h0 3 (by decide)).trans g3, fun j hj ht => ⟨(g4 j hj ht).1, (g4 j hj ht).2.1, (ha 56 j (by decide) (by decide)).trans (g4 j hj ht).2.2.1, (ha 57 j (by decide) (by decide)).trans (g4 j hj ht).2.2.2⟩, fun p hp v hv => (ha 58 _ (by decide) (by decide)).trans (g5 p hp v hv), fun p hp => (ha 59 _ (by decide) (by decide)).trans (g6 p hp), fun p hp => (ha 60 _ (by decide) (by decide)).trans (g7 p hp)⟩
theorem px_b01 {α : Type} (c : Bool) (x y : α) : (if nI (if c = true then 1 else 0) = 0 ∨ nI (if c = true then 1 else 0) = 1 then x else y) = x := by cases c <;> exact if_pos (by decide)
section PM
variable {σ : dc_HP} {V : pV}
theorem pm_is (h : pM σ V) {k : Nat} (hk : k < 8) : fn_X9_isSinger σ (nI k) = some (nI (if pth V k then 1 else 0)) := by
  obtain ⟨hm, sm, h0, -⟩ := h
  unfold fn_X9_isSinger
  rw [px_inN (lo := 0) (hi := 7) (by omega) (by decide) (by decide), if_pos (by omega), Option.bind_some, if_neg (by simp [px_eq0]), h0, px_pmbit _ (by decide) hk]
  cases pth V k <;> simp [nI_eq]
theorem pm_isN {x : Int32} (h : ¬ pr x 0 7) : fn_X9_isSinger σ x = some (nI 0) := by
  unfold fn_X9_isSinger
  rw [(px_in (lo := 0) (hi := 7) (by decide) (by decide)).2 h, Option.bind_some, if_pos (by simp [px_eq0])]
theorem pm_may (h : pM σ V) (ho : pOk V) {k v : Nat} (hk : k < 8) (hv : v < 4) : fn_X9_mayHere σ (nI k) (nI v) = some (nI (if qmay V v k then 1 else 0)) := by
  have hi := pm_is h hk
  obtain ⟨hm, sm, h0, h1, h2, h3, h4, h5, h6, h7⟩ := h
  unfold fn_X9_mayHere
  rw [hi, Option.bind_some]
  cases ht : pth V k with
  | false =>
    have e : qmay V v k = false := by simp [qmay, ht]
    rw [if_pos (by simp [px_eq0]), e]
    rfl
  | true =>
    obtain ⟨g1, g2, g3, g4⟩ := h4 k hk ht
    have hvo := ho.2.1 k hk
    rw [if_neg (by simp [px_eq0]), px_gg hk (by decide), nI_clamp (by omega), g3, h1, h2, px_pmbit _ (by decide) hk, px_pmbit _ (by decide) hk, g1, g2]
    by_cases c1 : pvo V k = v
    · rw [if_pos (by rw [c1])]
      cases c2 : pho V k <;> cases c3 : psa V k <;> simp [qmay, ht, c1, c2, c3, px_eq0]
    · rw [if_neg (fun q => c1 ((nI_eq (by omega) (by omega)).mp q))]
      simp [qmay, c1]
theorem qrdy_of {v k : Nat} : qrdy V v k = (qmay V v k && decide (0 < pde V k)) := by
  unfold qrdy qfree
  cases h : qmay V v k with
  | false => rfl
  | true =>
    have : pth V k = true := by
      simp only [qmay, Bool.and_eq_true] at h
      exact h.1.1.2
    rw [this]
    by_cases c : pde V k = 0
    · simp [c]
    · have : 0 < pde V k := by omega
      simp [c, this]
theorem pl_ready (h : pM σ V) (ho : pOk V) {v : Nat} (hv : v < 4) : ∀ d i n, i + d = 8 → d < n → fn_X9_ready_L5 σ (nI v) (nI 1) n (nI (pc (qrdy V v) i)) (nI i) = some (nI (pc (qrdy V v) 8)) := by
  intro d
  induction d with
  | zero =>
    intro i n hi hn
    obtain ⟨m, rfl⟩ : ∃ m, n = m + 1 := ⟨n - 1, by omega⟩
    obtain rfl : i = 8 := by omega
    unfold fn_X9_ready_L5
    rw [if_pos (nI_le (by omega) (by omega))]
  | succ d ih =>
    intro i n hi hn
    obtain ⟨m, rfl⟩ : ∃ m, n = m + 1 := ⟨n - 1, by omega⟩
    have g := ih (i + 1) m (by omega) (by omega)
    rw [pc, qrdy_of] at g
    unfold fn_X9_ready_L5
    rw [if_neg (nI_ge (by omega) (by decide)), pm_may h ho (by omega) hv, Option.bind_some, nI_add, nI_add, nI_add]
    cases c : qmay V v i with
    | false =>
      rw [c] at g
      rw [if_pos (by simp [px_eq0])]
      exact g
    | true =>
      rw [c] at g
      have ht : pth V i = true := by
        simp only [qmay, Bool.and_eq_true] at c
        exact c.1.1.2
      have hd := ho.2.2.1 i (by omega)
      obtain ⟨hm, sm, h0, h1, h2, h3, h4, -⟩ := id h
      rw [if_neg (by simp [px_eq0]), px_gg (by omega) (by decide), nI_clamp (by omega), (h4 i (by omega) ht).2.2.2]
      by_cases c2 : pde V i = 0
      · rw [if_pos ((px_le0 (by omega)).mpr c2), if_neg (by simp [nI_eq])]
        simp [c2] at g
        exact g
      · have c3 : 0 < pde V i := by omega
        rw [if_neg (fun q => c2 ((px_le0 (by omega)).mp q)), if_pos rfl]
        simp [c3] at g
        exact g
theorem pm_ready (h : pM σ V) (ho : pOk V) {v : Nat} (hv : v < 4) : fn_X9_ready σ (nI v) (nI 1) = some (nI (pc (qrdy V v) 8)) := by
  unfold fn_X9_ready
  have e := pl_ready h ho hv 8 0 200 rfl (by decide)
  rw [show pc (qrdy V v) 0 = 0 from rfl] at e
  rw [e]
  rfl
def qcn (V : pV) (p : Nat) : Nat → Nat → Bool
  | _, 0 => true
  | i, d + 1 => decide (pnd V p i ≤ pc (qrdy V i) 8) && qcn V p (i + 1) d
theorem qcn_b {p : Nat} : qcn V p 0 4 = qcanb V p := rfl
theorem pl_mcan0 {p : Nat} : ∀ d i n, i + d = 4 → d < n → fn_X9_canBeSung_L4 σ (nI p) n (nI 0) (nI i) = some (nI 0) := by
  intro d
  induction d with
  | zero =>
    intro i n hi hn
    obtain ⟨m, rfl⟩ : ∃ m, n = m + 1 := ⟨n - 1, by omega⟩
    unfold fn_X9_canBeSung_L4
    rw [if_pos (nI_le (by omega) (by omega))]
  | succ d ih =>
    intro i n hi hn
    obtain ⟨m, rfl⟩ : ∃ m, n = m + 1 := ⟨n - 1, by omega⟩
    unfold fn_X9_canBeSung_L4
    rw [if_neg (nI_ge (by omega) (by decide)), nI_add, if_pos nI_0]
    exact ih (i + 1) m (by omega) (by omega)
theorem pl_mcan (h : pM σ V) (ho : pOk V) {p : Nat} (hp : p < 6) : ∀ d i n, i + d = 4 → d < n → fn_X9_canBeSung_L4 σ (nI p) n (nI 1) (nI i) = some (nI (if qcn V p i d then 1 else 0)) := by
  intro d
  induction d with
  | zero =>
    intro i n hi hn
    obtain ⟨m, rfl⟩ : ∃ m, n = m + 1 := ⟨n - 1, by omega⟩
    unfold fn_X9_canBeSung_L4
    rw [if_pos (nI_le (by omega) (by omega))]
    rfl
  | succ d ih =>
    intro i n hi hn
    obtain ⟨m, rfl⟩ : ∃ m, n = m + 1 := ⟨n - 1, by omega⟩
    unfold fn_X9_canBeSung_L4
    have hd := ho.2.2.2.1 p hp i (by omega)
    have hc := pc_le (qrdy V i) 8
    rw [if_neg (nI_ge (by omega) (by decide)), nI_add, if_neg (by simp [px_eq0]), pm_ready h ho (by omega), Option.bind_some, pk_mul, nI_add, px_gg (by omega) (by decide), nI_clamp (by omega)]
    obtain ⟨hm, sm, h0, h1, h2, h3, h4, h5, -⟩ := id h
    rw [h5 p hp i (by omega)]
    by_cases c2 : pnd V p i ≤ pc (qrdy V i) 8
    · rw [if_neg (nI_nlt c2 (by omega)), ih (i + 1) m (by omega) (by omega)]
      have : qcn V p i (d + 1) = qcn V p (i + 1) d := by rw [qcn, decide_eq_true c2, Bool.true_and]
      rw [this]
    · rw [if_pos (nI_lt (by omega) (by omega)), pl_mcan0 d (i + 1) m (by omega) (by omega)]
      have : qcn V p i (d + 1) = false := by rw [qcn, decide_eq_false c2, Bool.false_and]
      rw [this]
      rfl
theorem pm_can (h : pM σ V) (ho : pOk V) {p : Nat} (hp : p < 6) : fn_X9_canBeSung σ (nI p) = some (nI (if qcanb V p then 1 else 0)) := by
  unfold fn_X9_canBeSung
  rw [pl_mcan h ho hp 4 0 200 rfl (by decide), Option.bind_some, qcn_b]
  exact px_b01 _ _ _
theorem pm_whyT (h : pM σ V) (ho : pOk V) {a v : Nat} (ha : a < 8) (hv : v < 8) (ht : pth V a = true) : fn_X9_whyNotTake σ (nI a) (nI v) = some (nI (qwhy V 3 a v)) := by
  unfold fn_X9_whyNotTake
  have hd := ho.2.2.1 a ha
  have hd2 := ho.2.2.1 v hv
  rw [pm_is h hv, Option.bind_some]
  obtain ⟨hm, sm, h0, h1, h2, h3, h4, -⟩ := id h
  cases hw : pth V v with
  | false =>
    rw [if_pos (by simp [px_eq0])]
    simp [qwhy, ht, hw]
  | true =>
    rw [if_neg (by simp [px_eq0]), px_gg ha (by decide), px_gg ha (by decide), px_gg hv (by decide), nI_clamp (by omega), nI_clamp (by omega), (h4 a ha ht).2.2.2, (h4 v hv hw).2.2.2, nI_add]
    by_cases c1 : a = v
    · rw [if_pos (by rw [c1])]
      simp [qwhy, ht, hw, c1]
    · rw [if_neg (fun q => c1 ((nI_eq (by omega) (by omega)).mp q))]
      by_cases c2 : pde V a = 0
      · rw [if_pos ((px_eq0 (by omega)).mpr c2)]
        simp [qwhy, ht, hw, c2]
      · rw [if_neg (fun q => c2 ((px_eq0 (by omega)).mp q))]
        by_cases c3 : pde V a + pde V v ≤ 999
        · rw [if_pos (nI_le c3 (by decide))]
          have : ¬ 999 < pde V a + pde V v := by omega
          simp [qwhy, ht, hw, c1, c2, this]
        · rw [if_neg (nI_ge (by omega) (by omega))]
          have : 999 < pde V a + pde V v := by omega
          simp [qwhy, ht, hw, c1, c2, this]
theorem pm_why (h : pM σ V) (ho : pOk V) {k a v : Nat} (hk : k < 6) (ha : a < 8) (ha0 : k = 0 → a < 6) (hv3 : k = 3 → v < 8) (hv : v ≤ 2000) : fn_X9_whyNot σ (nI k) (nI a) (nI v) = some (nI (qwhy V k a v)) := by
  unfold fn_X9_whyNot
  by_cases k5 : k = 5
  · subst k5
    obtain ⟨hm, sm, h0, h1, h2, h3, -⟩ := id h
    have := ho.1
    rw [if_pos rfl, h3]
    by_cases c : pev V = 99
    · rw [if_pos (by rw [c])]; simp [qwhy, c]
    · rw [if_neg (fun q => c ((nI_eq (by omega) (by omega)).mp q))]; simp [qwhy, c]
  rw [if_neg (fun q => k5 ((nI_eq (by omega) (by omega)).mp q))]
  by_cases k0 : k = 0
  · subst k0
    rw [if_pos nI_0, pm_can h ho (ha0 rfl), Option.bind_some]
    cases c : qcanb V a
    · rw [if_pos (by simp [px_eq0])]; simp [qwhy, c]
    · rw [if_neg (by simp [px_eq0])]; simp [qwhy, c]
  rw [if_neg (fun q => k0 ((px_eq0 (by omega)).mp q)), pm_is h ha, Option.bind_some]
  cases ht : pth V a with
  | false =>
    rw [if_pos (by simp [px_eq0])]
    simp [qwhy, k5, k0, ht]
  | true =>
    have hd := ho.2.2.1 a ha
    obtain ⟨hm, sm, h0, h1, h2, h3, h4, -⟩ := id h
    rw [if_neg (by simp [px_eq0])]
    rcases (show k = 1 ∨ k = 2 ∨ k = 3 ∨ k = 4 by omega) with rfl | rfl | rfl | rfl
    · rw [if_pos rfl, px_gg ha (by decide), nI_clamp (by omega), (h4 a ha ht).2.2.2, nI_add]
      by_cases c : pde V a + v ≤ 999
      · rw [if_pos (nI_le c (by decide))]
        have : ¬ 999 < pde V a + v := by omega
        simp [qwhy, ht, this]
      · rw [if_neg (nI_ge (by omega) (by omega))]
        have : 999 < pde V a + v := by omega
        simp [qwhy, ht, this]
    · rw [if_neg (by simp [nI_eq]), if_pos rfl]
      simp [qwhy, ht]
    · rw [if_neg (by simp [nI_eq]), if_neg (by simp [nI_eq]), if_pos rfl, pm_whyT h ho ha (hv3 rfl) ht]
      rfl
    · rw [if_neg (by simp [nI_eq]), if_neg (by simp [nI_eq]), if_neg (by simp [nI_eq]), if_pos rfl, px_gg ha (by decide), nI_clamp (by omega), (h4 a ha ht).2.2.2]
      by_cases c : pde V a = 0
      · rw [if_pos ((px_eq0 (by omega)).mpr c)]
        simp [qwhy, ht, c]
      · rw [if_neg (fun q => c ((px_eq0 (by omega)).mp q))]
        simp [qwhy, ht, c]
end PM
