/-! the choir as numbers: who is there, hoarse, sang; evenings; voices, debts; needs, bars, pays -/
abbrev pV : Type := (Nat → Bool) × (Nat → Bool) × (Nat → Bool) × Nat × (Nat → Nat) × (Nat → Nat) × (Nat → Nat → Nat) × (Nat → Nat) × (Nat → Nat)
abbrev pth (V : pV) : Nat → Bool := V.1
abbrev pho (V : pV) : Nat → Bool := V.2.1
abbrev psa (V : pV) : Nat → Bool := V.2.2.1
abbrev pev (V : pV) : Nat := V.2.2.2.1
abbrev pvo (V : pV) : Nat → Nat := V.2.2.2.2.1
abbrev pde (V : pV) : Nat → Nat := V.2.2.2.2.2.1
abbrev pnd (V : pV) : Nat → Nat → Nat := V.2.2.2.2.2.2.1
abbrev pba (V : pV) : Nat → Nat := V.2.2.2.2.2.2.2.1
abbrev ppy (V : pV) : Nat → Nat := V.2.2.2.2.2.2.2.2
def pu {α : Type} (f : Nat → α) (k : Nat) (v : α) : Nat → α := fun j => if j = k then v else f j
theorem pu_s {α : Type} (f : Nat → α) (k : Nat) (v : α) : pu f k v k = v := if_pos rfl
theorem pu_n {α : Type} (f : Nat → α) {k j : Nat} (v : α) (h : j ≠ k) : pu f k v j = f j := if_neg h
abbrev pSho (V : pV) (f : Nat → Bool) : pV := (pth V, f, psa V, pev V, pvo V, pde V, pnd V, pba V, ppy V)
abbrev pSsa (V : pV) (f : Nat → Bool) : pV := (pth V, pho V, f, pev V, pvo V, pde V, pnd V, pba V, ppy V)
abbrev pSev (V : pV) (n : Nat) : pV := (pth V, pho V, psa V, n, pvo V, pde V, pnd V, pba V, ppy V)
abbrev pSde (V : pV) (f : Nat → Nat) : pV := (pth V, pho V, psa V, pev V, pvo V, f, pnd V, pba V, ppy V)
/-- what its numbers keep to -/
def pOk (V : pV) : Prop := pev V ≤ 99 ∧ (∀ k, k < 8 → pvo V k < 4) ∧ (∀ k, k < 8 → pde V k ≤ 999) ∧ (∀ p, p < 6 → ∀ v, v < 4 → pnd V p v ≤ 3) ∧ (∀ p, p < 6 → pba V p ≤ 60) ∧ (∀ p, p < 6 → ppy V p ≤ 9) ∧ ∀ k, k < 8 → pth V k = false → pho V k = false ∧ psa V k = false ∧ pde V k = 0
/-- the class's choir at the cell b is V -/
def pC (σ : dc_HP) (b : Nat) (V : pV) : Prop := σ.1 b 0 = nI (pm (pth V) 8) ∧ σ.1 b 1 = nI (pm (pho V) 8) ∧ σ.1 b 2 = nI (pm (psa V) 8) ∧ σ.1 b 3 = nI (pev V) ∧ (∀ k, k < 8 → σ.1 (b + 1) k = nI (pvo V k)) ∧ (∀ k, k < 8 → σ.1 (b + 2) k = nI (pde V k)) ∧ (∀ p, p < 6 → ∀ v, v < 4 → σ.1 (b + 3) (p * 4 + v) = nI (pnd V p v)) ∧ (∀ p, p < 6 → σ.1 (b + 4) p = nI (pba V p)) ∧ (∀ p, p < 6 → σ.1 (b + 5) p = nI (ppy V p))
theorem pC.de {σ : dc_HP} {b : Nat} {V : pV} (h : pC σ b V) (k d : Nat) : pC (dc_wI σ (b + 2) k (nI d)) b (pSde V (pu (pde V) k d)) := by
  obtain ⟨h0, h1, h2, h3, h4, h5, h6, h7, h8⟩ := h
  refine ⟨by simpa [dc_wI] using h0, by simpa [dc_wI] using h1, by simpa [dc_wI] using h2, by simpa [dc_wI] using h3, fun j hj => by simpa [dc_wI] using h4 j hj, fun j hj => ?_, fun p hp v hv => by simpa [dc_wI] using h6 p hp v hv, fun p hp => by simpa [dc_wI] using h7 p hp, fun p hp => by simpa [dc_wI] using h8 p hp⟩
  by_cases e : j = k
  · subst e; simp [dc_wI, pu, pde, pSde]
  · have := h5 j hj; simpa [dc_wI, pu, e, pde, pSde] using this
theorem pC.sa {σ : dc_HP} {b : Nat} {V : pV} (h : pC σ b V) (f : Nat → Bool) {x : Int32} (hx : x = nI (pm f 8)) : pC (dc_wI σ b 2 x) b (pSsa V f) := by
  obtain ⟨h0, h1, h2, h3, h4, h5, h6, h7, h8⟩ := h
  exact ⟨by simpa [dc_wI] using h0, by simpa [dc_wI] using h1, by simp [dc_wI, hx], by simpa [dc_wI] using h3, fun j hj => by simpa [dc_wI] using h4 j hj, fun j hj => by simpa [dc_wI] using h5 j hj, fun p hp v hv => by simpa [dc_wI] using h6 p hp v hv, fun p hp => by simpa [dc_wI] using h7 p hp, fun p hp => by simpa [dc_wI] using h8 p hp⟩
theorem pC.ho {σ : dc_HP} {b : Nat} {V : pV} (h : pC σ b V) (f : Nat → Bool) {x : Int32} (hx : x = nI (pm f 8)) : pC (dc_wI σ b 1 x) b (pSho V f) := by
  obtain ⟨h0, h1, h2, h3, h4, h5, h6, h7, h8⟩ := h
  exact ⟨by simpa [dc_wI] using h0, by simp [dc_wI, hx], by simpa [dc_wI] using h2, by simpa [dc_wI] using h3, fun j hj => by simpa [dc_wI] using h4 j hj, fun j hj => by simpa [dc_wI] using h5 j hj, fun p hp v hv => by simpa [dc_wI] using h6 p hp v hv, fun p hp => by simpa [dc_wI] using h7 p hp, fun p hp => by simpa [dc_wI] using h8 p hp⟩
theorem pC.ev {σ : dc_HP} {b : Nat} {V : pV} (h : pC σ b V) (n : Nat) {x : Int32} (hx : x = nI n) : pC (dc_wI σ b 3 x) b (pSev V n) := by
  obtain ⟨h0, h1, h2, h3, h4, h5, h6, h7, h8⟩ := h
  exact ⟨by simpa [dc_wI] using h0, by simpa [dc_wI] using h1, by simpa [dc_wI] using h2, by simp [dc_wI, hx], fun j hj => by simpa [dc_wI] using h4 j hj, fun j hj => by simpa [dc_wI] using h5 j hj, fun p hp v hv => by simpa [dc_wI] using h6 p hp v hv, fun p hp => by simpa [dc_wI] using h7 p hp, fun p hp => by simpa [dc_wI] using h8 p hp⟩
theorem pC.other {σ τ : dc_HP} {b : Nat} {V : pV} (h : pC σ b V) (h0 : ∀ j, j < 4 → τ.1 b j = σ.1 b j) (ha : ∀ c j, 1 ≤ c → c ≤ 5 → τ.1 (b + c) j = σ.1 (b + c) j) : pC τ b V := by
  obtain ⟨g0, g1, g2, g3, g4, g5, g6, g7, g8⟩ := h
  exact ⟨(h0 0 (by decide)).trans g0, (h0 1 (by decide)).trans g1, (h0 2 (by decide)).trans g2, (h0 3 (by decide)).trans g3, fun j hj => (ha 1 j (by decide) (by decide)).trans (g4 j hj), fun j hj => (ha 2 j (by decide) (by decide)).trans (g5 j hj), fun p hp v hv => (ha 3 _ (by decide) (by decide)).trans (g6 p hp v hv), fun p hp => (ha 4 _ (by decide) (by decide)).trans (g7 p hp), fun p hp => (ha 5 _ (by decide) (by decide)).trans (g8 p hp)⟩
theorem pOk.de {V : pV} (h : pOk V) {k d : Nat} (hd : d ≤ 999) (ht : pth V k = true) : pOk (pSde V (pu (pde V) k d)) := by
  obtain ⟨h0, h1, h2, h3, h4, h5, h6⟩ := h
  refine ⟨h0, h1, fun j hj => ?_, h3, h4, h5, fun j hj hf => ?_⟩
  · show pu (pde V) k d j ≤ 999
    by_cases e : j = k
    · rw [e, pu_s]; exact hd
    · rw [pu_n _ _ e]; exact h2 j hj
  · have e : j ≠ k := fun e => by subst e; rw [show pth V j = false from hf] at ht; cases ht
    exact ⟨(h6 j hj hf).1, (h6 j hj hf).2.1, (pu_n _ _ e).trans (h6 j hj hf).2.2⟩
theorem pOk.sa {V : pV} (h : pOk V) {f : Nat → Bool} (hf : ∀ k, k < 8 → pth V k = false → f k = false) : pOk (pSsa V f) := by
  obtain ⟨h0, h1, h2, h3, h4, h5, h6⟩ := h
  exact ⟨h0, h1, h2, h3, h4, h5, fun j hj ht => ⟨(h6 j hj ht).1, hf j hj ht, (h6 j hj ht).2.2⟩⟩
theorem pOk.ho {V : pV} (h : pOk V) {f : Nat → Bool} (hf : ∀ k, k < 8 → pth V k = false → f k = false) : pOk (pSho V f) := by
  obtain ⟨h0, h1, h2, h3, h4, h5, h6⟩ := h
  exact ⟨h0, h1, h2, h3, h4, h5, fun j hj ht => ⟨hf j hj ht, (h6 j hj ht).2.1, (h6 j hj ht).2.2⟩⟩
/-! reads -/
section PC
variable {σ : dc_HP} {b : Nat} {V : pV}
theorem pc_has (h : pC σ b V) {k : Nat} (hk : k < 8) : fn_X0_has σ b (nI k) = some (nI (if pth V k then 1 else 0)) := by
  unfold fn_X0_has
  rw [if_neg (nI_pos (by omega)), if_neg (nI_ge hk (by decide)), h.1, px_pmbit _ (by decide) hk]
  cases pth V k <;> simp [nI_eq]
theorem pc_hasN {x : Int32} (h : ¬ pr x 0 7) : fn_X0_has σ b x = some (nI 0) := by
  unfold fn_X0_has
  unfold pr at h
  by_cases h1 : x < 0
  · rw [if_pos h1]
  · rw [if_neg h1, if_pos]
    rw [Int32.lt_iff_toInt_lt, Int32.toInt_zero] at h1
    rw [Int32.le_iff_toInt_le, nI_toInt (by decide)]
    omega
theorem pc_hasm6 : fn_X0_has σ b (-6 : Int32) = some (nI 0) := pc_hasN (by unfold pr; decide)
theorem pc_debtOf (h : pC σ b V) (ho : pOk V) {k : Nat} (hk : k < 8) : fn_X0_debtOf σ b (nI k) = some (nI (pde V k)) := by
  unfold fn_X0_debtOf
  rw [pc_has h hk, Option.bind_some]
  cases ht : pth V k with
  | false => rw [(ho.2.2.2.2.2.2 k hk ht).2.2]; simp [nI_0]
  | true =>
    rw [if_neg (by simp [px_eq0]), px_gg hk (by decide), nI_clamp (by omega), h.2.2.2.2.2.1 k hk]
theorem pc_debtOfm6 : fn_X0_debtOf σ b (-6 : Int32) = some (nI 0) := by
  unfold fn_X0_debtOf
  rw [pc_hasm6]
  simp [nI_0]
theorem pc_owe (h : pC σ b V) {k : Nat} (hk : k < 8) (ht : pth V k = true) (x : Int32) : fn_X0_owe σ b (nI k) x = some (dc_wI σ (b + 2) k x) := by
  unfold fn_X0_owe
  rw [pc_has h hk, Option.bind_some, ht]
  rw [if_neg (by simp [px_eq0]), px_gg hk (by decide), nI_clamp (by omega)]
theorem pc_barsOf (h : pC σ b V) {p : Nat} (hp : p < 6) : fn_X0_barsOf σ b (nI p) = some (nI (pba V p)) := by
  unfold fn_X0_barsOf
  rw [px_withinN (by omega) (by decide) (by decide), if_pos (by omega), Option.bind_some, if_neg (by simp [px_eq0]), px_gg hp (by decide), nI_clamp (by omega), h.2.2.2.2.2.2.2.1 p hp]
theorem pc_payOf (h : pC σ b V) {p : Nat} (hp : p < 6) : fn_X0_payOf σ b (nI p) = some (nI (ppy V p)) := by
  unfold fn_X0_payOf
  rw [px_withinN (by omega) (by decide) (by decide), if_pos (by omega), Option.bind_some, if_neg (by simp [px_eq0]), px_gg hp (by decide), nI_clamp (by omega), h.2.2.2.2.2.2.2.2 p hp]
def qw (V : pV) (p : Nat) : Nat := pba V p * ppy V p
theorem qw_le (ho : pOk V) {p : Nat} (hp : p < 6) : qw V p ≤ 540 := Nat.mul_le_mul (ho.2.2.2.2.1 p hp) (ho.2.2.2.2.2.1 p hp)
theorem pc_worthOf (h : pC σ b V) {p : Nat} (hp : p < 6) : fn_X0_worthOf σ b (nI p) = some (nI (qw V p)) := by
  unfold fn_X0_worthOf
  rw [pc_barsOf h hp, Option.bind_some, pc_payOf h hp, Option.bind_some, pk_mul]
  rfl
theorem pc_needOf (h : pC σ b V) {p v : Nat} (hp : p < 6) (hv : v < 4) : fn_X0_needOf σ b (nI p) (nI v) = some (nI (pnd V p v)) := by
  unfold fn_X0_needOf
  rw [px_withinN (by omega) (by decide) (by decide), if_pos (by omega), Option.bind_some, if_neg (by simp [px_eq0]), px_withinN (by omega) (by decide) (by decide), if_pos (by omega), Option.bind_some, if_neg (by simp [px_eq0]), Option.bind_some, if_neg (by simp [px_eq0]), pk_mul, nI_add, px_gg (by omega) (by decide), nI_clamp (by omega), h.2.2.2.2.2.2.1 p hp v hv]
theorem pm_acc1 {n i : Nat} {g : Nat → Bool} (h : g i = true) : pm (fun j => decide (j = i) || (decide (j < i) && g j)) n = pm (fun k => decide (k < i + 1) && g k) n := by
  apply pm_congr
  intro k _
  by_cases e : k = i
  · subst e; simp [h]
  · have : (k < i + 1) ↔ k < i := by omega
    simp [e, this]
theorem pm_acc0 {n i : Nat} {g : Nat → Bool} (h : g i = false) : pm (fun j => decide (j < i) && g j) n = pm (fun k => decide (k < i + 1) && g k) n := by
  apply pm_congr
  intro k _
  by_cases e : k = i
  · subst e; simp [h]
  · have : (k < i + 1) ↔ k < i := by omega
    simp [this]
theorem pm_all {n : Nat} {g : Nat → Bool} : pm (fun j => decide (j < n) && g j) n = pm g n := pm_congr (fun k hk => by simp [hk])
theorem pm_none {n : Nat} {g : Nat → Bool} : pm (fun j => decide (j < 0) && g j) n = 0 := by
  symm
  apply pm_ext (Nat.two_pow_pos n)
  intro k hk
  simp
def qfree (V : pV) : Nat → Bool := fun k => pth V k && decide (pde V k = 0)
def qmay (V : pV) (v : Nat) : Nat → Bool := fun k => decide (pvo V k = v) && pth V k && !pho V k && !psa V k
def qrdy (V : pV) (v : Nat) : Nat → Bool := fun k => qmay V v k && !qfree V k
theorem pl_free (h : pC σ b V) (ho : pOk V) : ∀ d i n, i + d = 8 → d < n → fn_X0_freeSingers_L4 σ b n (nI (pm (fun j => decide (j < i) && decide (pde V j = 0)) 8)) (nI i) = some (nI (pm (fun j => decide (pde V j = 0)) 8)) := by
  intro d
  induction d with
  | zero =>
    intro i n hi hn
    obtain ⟨m, rfl⟩ : ∃ m, n = m + 1 := ⟨n - 1, by omega⟩
    obtain rfl : i = 8 := by omega
    unfold fn_X0_freeSingers_L4
    rw [if_pos (nI_le (Nat.le_refl 8) (by decide)), pm_all]
  | succ d ih =>
    intro i n hi hn
    obtain ⟨m, rfl⟩ : ∃ m, n = m + 1 := ⟨n - 1, by omega⟩
    unfold fn_X0_freeSingers_L4
    rw [if_neg (nI_ge (by omega) (by decide)), px_gg (by omega) (by decide), nI_clamp (by omega), h.2.2.2.2.2.1 i (by omega), nI_add]
    have hd := ho.2.2.1 i (by omega)
    by_cases c : pde V i = 0
    · rw [if_pos ((px_eq0 (by omega)).mpr c), px_set _ (by decide) (by omega), pm_acc1 (g := fun j => decide (pde V j = 0)) (by simpa using c)]
      exact ih (i + 1) m (by omega) (by omega)
    · rw [if_neg (fun q => c ((px_eq0 (by omega)).mp q)), pm_acc0 (g := fun j => decide (pde V j = 0)) (by simpa using c)]
      exact ih (i + 1) m (by omega) (by omega)
theorem pc_free (h : pC σ b V) (ho : pOk V) : fn_X0_freeSingers σ b = some (nI (pm (qfree V) 8)) := by
  unfold fn_X0_freeSingers
  have e := pl_free h ho 8 0 200 rfl (by decide)
  rw [pm_none] at e
  rw [e, Option.bind_some, h.1, px_pand]
  congr 2
  exact pm_congr (fun k _ => by simp [qfree, Bool.and_comm])
theorem pl_breath (h : pC σ b V) (ho : pOk V) {v : Nat} (hv : v < 4) : ∀ d i n, i + d = 8 → d < n → fn_X0_withBreath_L4 σ b (nI v) n (nI (pm (fun j => decide (j < i) && decide (pvo V j = v)) 8)) (nI i) = some (nI (pm (fun j => decide (pvo V j = v)) 8)) := by
  intro d
  induction d with
  | zero =>
    intro i n hi hn
    obtain ⟨m, rfl⟩ : ∃ m, n = m + 1 := ⟨n - 1, by omega⟩
    obtain rfl : i = 8 := by omega
    unfold fn_X0_withBreath_L4
    rw [if_pos (nI_le (Nat.le_refl 8) (by decide)), pm_all]
  | succ d ih =>
    intro i n hi hn
    obtain ⟨m, rfl⟩ : ∃ m, n = m + 1 := ⟨n - 1, by omega⟩
    unfold fn_X0_withBreath_L4
    have hd := ho.2.1 i (by omega)
    rw [if_neg (nI_ge (by omega) (by decide)), px_gg (by omega) (by decide), nI_clamp (by omega), h.2.2.2.2.1 i (by omega), nI_add]
    by_cases c : pvo V i = v
    · rw [if_pos (by rw [c]), px_set _ (by decide) (by omega), pm_acc1 (g := fun j => decide (pvo V j = v)) (by simpa using c)]
      exact ih (i + 1) m (by omega) (by omega)
    · rw [if_neg (fun q => c ((nI_eq (by omega) (by omega)).mp q)), pm_acc0 (g := fun j => decide (pvo V j = v)) (by simpa using c)]
      exact ih (i + 1) m (by omega) (by omega)
theorem pc_breath (h : pC σ b V) (ho : pOk V) {v : Nat} (hv : v < 4) : fn_X0_withBreath σ b (nI v) = some (nI (pm (qmay V v) 8)) := by
  unfold fn_X0_withBreath
  have e := pl_breath h ho hv 8 0 200 rfl (by decide)
  rw [pm_none] at e
  rw [e, Option.bind_some, h.1, h.2.1, h.2.2.1, px_pand, px_pdiff _ _ (by decide), px_pdiff _ _ (by decide)]
  rfl
theorem pc_ready (h : pC σ b V) (ho : pOk V) {v : Nat} (hv : v < 4) : fn_X0_readyIn σ b (nI v) = some (nI (pm (qrdy V v) 8)) := by
  unfold fn_X0_readyIn
  rw [pc_breath h ho hv, Option.bind_some, pc_free h ho, Option.bind_some, px_pdiff _ _ (by decide)]
  rfl
def qcan (V : pV) (p : Nat) : Prop := ∀ v, v < 4 → pnd V p v ≤ pc (qrdy V v) 8
theorem pl_can (h : pC σ b V) (ho : pOk V) {p : Nat} (hp : p < 6) : ∀ d i n, i + d = 4 → d < n → ((∀ v, i ≤ v → v < 4 → pnd V p v ≤ pc (qrdy V v) 8) → fn_X0_canBeSung_L2 σ b (nI p) n (nI i) = some (.inr ())) ∧ (¬ (∀ v, i ≤ v → v < 4 → pnd V p v ≤ pc (qrdy V v) 8) → fn_X0_canBeSung_L2 σ b (nI p) n (nI i) = some (.inl (nI 0))) := by
  intro d
  induction d with
  | zero =>
    intro i n hi hn
    obtain ⟨m, rfl⟩ : ∃ m, n = m + 1 := ⟨n - 1, by omega⟩
    obtain rfl : i = 4 := by omega
    unfold fn_X0_canBeSung_L2
    rw [if_pos (nI_le (Nat.le_refl 4) (by decide))]
    exact ⟨fun _ => rfl, fun q => absurd (fun v h1 h2 => absurd h2 (by omega)) q⟩
  | succ d ih =>
    intro i n hi hn
    obtain ⟨m, rfl⟩ : ∃ m, n = m + 1 := ⟨n - 1, by omega⟩
    unfold fn_X0_canBeSung_L2
    have hd := ho.2.2.2.1 p hp i (by omega)
    have hc := pc_le (qrdy V i) 8
    rw [if_neg (nI_ge (by omega) (by decide)), pc_ready h ho (by omega), Option.bind_some, (px_cnt _).1, Option.bind_some, pc_needOf h hp (by omega), Option.bind_some, nI_add]
    by_cases c : pnd V p i ≤ pc (qrdy V i) 8
    · rw [if_pos (nI_le c (by omega))]
      obtain ⟨g1, g2⟩ := ih (i + 1) m (by omega) (by omega)
      refine ⟨fun q => g1 (fun v h1 h2 => q v (by omega) h2), fun q => g2 (fun r => q (fun v h1 h2 => ?_))⟩
      by_cases e : v = i
      · subst e; exact c
      · exact r v (by omega) h2
    · rw [if_neg (nI_ge (by omega) (by omega))]
      exact ⟨fun q => absurd (q i (Nat.le_refl i) (by omega)) c, fun _ => rfl⟩
theorem pc_can (h : pC σ b V) (ho : pOk V) {p : Nat} (hp : p < 6) : (qcan V p → fn_X0_canBeSung σ b (nI p) = some (nI 1)) ∧ (¬ qcan V p → fn_X0_canBeSung σ b (nI p) = some (nI 0)) := by
  obtain ⟨g1, g2⟩ := pl_can h ho hp 4 0 200 rfl (by decide)
  unfold fn_X0_canBeSung
  refine ⟨fun q => ?_, fun q => ?_⟩
  · rw [g1 (fun v _ h2 => q v h2)]; rfl
  · rw [g2 (fun r => q (fun v h2 => r v (Nat.zero_le v) h2))]; rfl
end PC
