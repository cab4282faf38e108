/-! rows that fit the sights -/
def qtog (r a : Nat) : Nat := min (r / 10) a + min (r % 10) a
def qfit (S : pSg) (r : Nat) : Prop := ∀ i, i < S.2.2 → qtog r (S.1 i) = S.2.1 i
theorem px_min {a b : Nat} (ha : a < 2 ^ 31) (hb : b < 2 ^ 31) : (if nI a < nI b then nI a else nI b) = nI (min a b) := by
  by_cases c : a < b
  · rw [if_pos ((nI_ltI ha hb).mpr c), Nat.min_eq_left (by omega)]
  · rw [if_neg (fun q => c ((nI_ltI ha hb).mp q)), Nat.min_eq_right (by omega)]
theorem px_sumOf {r a : Nat} (hr : r < 2 ^ 31) (ha : a < 2 ^ 31) : fn_X6_sumOf (nI r) (nI a) = some (nI (qtog r a)) := by
  unfold fn_X6_sumOf qtog
  rw [px_rem10 hr, px_div10 hr, px_min (by omega) ha, px_min (by omega) ha, nI_add]
theorem px_tgr {r a : Nat} (hr : r < 2 ^ 31) (ha : a < 2 ^ 31) : fn_X9_together (nI r) (nI a) = some (nI (qtog r a)) := by
  unfold fn_X9_together qtog
  rw [px_rem10 hr, px_div10 hr, nI_add, nI_add, nI_add, nI_add]
  by_cases c1 : a ≤ r / 10 <;> by_cases c2 : a ≤ r % 10
  · rw [if_pos (nI_le c1 (by omega)), if_pos (nI_le c2 (by omega)), Nat.min_eq_right c1, Nat.min_eq_right c2]
  · rw [if_pos (nI_le c1 (by omega)), if_neg (nI_ge (by omega) (by omega)), Nat.min_eq_right c1, Nat.min_eq_left (by omega)]
  · rw [if_neg (nI_ge (by omega) (by omega)), if_pos (nI_le c2 (by omega)), Nat.min_eq_left (by omega), Nat.min_eq_right c2]
  · rw [if_neg (nI_ge (by omega) (by omega)), if_neg (nI_ge (by omega) (by omega)), Nat.min_eq_left (by omega), Nat.min_eq_left (by omega)]
theorem qtog_le {r a : Nat} (hr : r < 100) : qtog r a ≤ 18 := by unfold qtog; omega
theorem pl_fits {σ : dc_HP} {b : Nat} {S : pSg} (h : pSC σ b S) (hk : pSok S) {r : Nat} (hr : r < 100) : ∀ d i m, i + d = S.2.2 → d < m → ((∀ j, i ≤ j → j < S.2.2 → qtog r (S.1 j) = S.2.1 j) → fn_X6_fitsAll_L2 σ b (nI r) m (nI i) = some (.inr ())) ∧ (¬ (∀ j, i ≤ j → j < S.2.2 → qtog r (S.1 j) = S.2.1 j) → fn_X6_fitsAll_L2 σ b (nI r) m (nI i) = some (.inl (nI 0))) := by
  intro d
  have h8 := hk.1
  induction d with
  | zero =>
    intro i m hi hm
    obtain ⟨m, rfl⟩ : ∃ n, m = n + 1 := ⟨m - 1, by omega⟩
    unfold fn_X6_fitsAll_L2
    rw [h.1, if_pos (nI_le (by omega) (by omega))]
    exact ⟨fun _ => rfl, fun q => absurd (fun j h1 h2 => absurd h2 (by omega)) q⟩
  | succ d ih =>
    intro i m hi hm
    obtain ⟨m, rfl⟩ : ∃ n, m = n + 1 := ⟨m - 1, by omega⟩
    have hb := hk.2 i (by omega)
    have ht := qtog_le (r := r) (a := S.1 i) hr
    obtain ⟨z1, z2⟩ := h.2 i (by omega)
    obtain ⟨g1, g2⟩ := ih (i + 1) m (by omega) (by omega)
    unfold fn_X6_fitsAll_L2
    rw [h.1, if_neg (nI_ge (by omega) (by omega)), if_neg (nI_ge (by omega) (by decide)), px_gg (by omega) (by decide), nI_clamp (by omega), z1, px_sumOf (by omega) (by omega), Option.bind_some, if_neg (show ¬ (nI i < 0 ∨ 8 ≤ i) from fun q => q.elim (nI_pos (by omega)) (by omega)), z2, nI_add]
    by_cases c : qtog r (S.1 i) = S.2.1 i
    · rw [if_pos (by rw [c])]
      refine ⟨fun q => g1 (fun j h1 h2 => q j (by omega) h2), fun q => g2 (fun w => q (fun j h1 h2 => ?_))⟩
      by_cases e : j = i
      · subst e; exact c
      · exact w j (by omega) h2
    · rw [if_neg (fun q => c ((nI_eq (by omega) (by omega)).mp q))]
      exact ⟨fun q => absurd (q i (Nat.le_refl i) (by omega)) c, fun _ => rfl⟩
theorem pc_fits {σ : dc_HP} {b : Nat} {S : pSg} (h : pSC σ b S) (hk : pSok S) {r : Nat} (hr : r < 100) : (qfit S r → fn_X6_fitsAll σ b (nI r) = some (nI 1)) ∧ (¬ qfit S r → fn_X6_fitsAll σ b (nI r) = some (nI 0)) := by
  have h8 := hk.1
  obtain ⟨g1, g2⟩ := pl_fits h hk hr S.2.2 0 200 (by omega) (by omega)
  unfold fn_X6_fitsAll
  refine ⟨fun q => ?_, fun q => ?_⟩
  · rw [g1 (fun j _ h2 => q j h2)]; rfl
  · rw [g2 (fun w => q (fun j h2 => w j (Nat.zero_le j) h2))]; rfl
theorem pl_mfits0 {σ : dc_HP} {S : pSg} (h : pSM σ S) (hk : pSok S) {x : Int32} : ∀ d i m, i + d = S.2.2 → d < m → fn_X9_fits_L4 σ x m (nI 0) (nI i) = some (nI 0) := by
  intro d
  have h8 := hk.1
  induction d with
  | zero =>
    intro i m hi hm
    obtain ⟨m, rfl⟩ : ∃ n, m = n + 1 := ⟨m - 1, by omega⟩
    unfold fn_X9_fits_L4
    rw [h.1, if_pos (nI_le (by omega) (by omega))]
  | succ d ih =>
    intro i m hi hm
    obtain ⟨m, rfl⟩ : ∃ n, m = n + 1 := ⟨m - 1, by omega⟩
    unfold fn_X9_fits_L4
    rw [h.1, if_neg (nI_ge (by omega) (by omega)), if_pos nI_0, nI_add]
    exact ih (i + 1) m (by omega) (by omega)
theorem pl_mfits {σ : dc_HP} {S : pSg} (h : pSM σ S) (hk : pSok S) {r : Nat} (hr : r < 100) : ∀ d i m, i + d = S.2.2 → d < m → ((∀ j, i ≤ j → j < S.2.2 → qtog r (S.1 j) = S.2.1 j) → fn_X9_fits_L4 σ (nI r) m (nI 1) (nI i) = some (nI 1)) ∧ (¬ (∀ j, i ≤ j → j < S.2.2 → qtog r (S.1 j) = S.2.1 j) → fn_X9_fits_L4 σ (nI r) m (nI 1) (nI i) = some (nI 0)) := by
  intro d
  have h8 := hk.1
  induction d with
  | zero =>
    intro i m hi hm
    obtain ⟨m, rfl⟩ : ∃ n, m = n + 1 := ⟨m - 1, by omega⟩
    unfold fn_X9_fits_L4
    rw [h.1, if_pos (nI_le (by omega) (by omega))]
    exact ⟨fun _ => rfl, fun q => absurd (fun j h1 h2 => absurd h2 (by omega)) q⟩
  | succ d ih =>
    intro i m hi hm
    obtain ⟨m, rfl⟩ : ∃ n, m = n + 1 := ⟨m - 1, by omega⟩
    have hb := hk.2 i (by omega)
    have ht := qtog_le (r := r) (a := S.1 i) hr
    obtain ⟨z1, z2⟩ := h.2 i (by omega)
    obtain ⟨g1, g2⟩ := ih (i + 1) m (by omega) (by omega)
    unfold fn_X9_fits_L4
    rw [h.1, if_neg (nI_ge (by omega) (by omega)), if_neg (show ¬ nI 1 = 0 by decide), px_gg (by omega) (by decide), nI_clamp (by omega), z1, px_tgr (by omega) (by omega), Option.bind_some, if_neg (show ¬ (nI i < 0 ∨ 8 ≤ i) from fun q => q.elim (nI_pos (by omega)) (by omega)), z2, nI_add]
    by_cases c : qtog r (S.1 i) = S.2.1 i
    · rw [if_pos (by rw [c])]
      refine ⟨fun q => g1 (fun j h1 h2 => q j (by omega) h2), fun q => g2 (fun w => q (fun j h1 h2 => ?_))⟩
      by_cases e : j = i
      · subst e; exact c
      · exact w j (by omega) h2
    · rw [if_neg (fun q => c ((nI_eq (by omega) (by omega)).mp q))]
      exact ⟨fun q => absurd (q i (Nat.le_refl i) (by omega)) c, fun _ => pl_mfits0 h hk d (i + 1) m (by omega) (by omega)⟩
theorem pm_fits {σ : dc_HP} {S : pSg} (h : pSM σ S) (hk : pSok S) {r : Nat} (hr : r < 100) : (qfit S r → fn_X9_fits σ (nI r) = some (nI 1)) ∧ (¬ qfit S r → fn_X9_fits σ (nI r) = some (nI 0)) := by
  have h8 := hk.1
  obtain ⟨g1, g2⟩ := pl_mfits h hk hr S.2.2 0 200 (by omega) (by omega)
  unfold fn_X9_fits
  refine ⟨fun q => ?_, fun q => ?_⟩
  · rw [g1 (fun j _ h2 => q j h2), Option.bind_some]; exact if_pos (by decide)
  · rw [g2 (fun w => q (fun j h2 => w j (Nat.zero_le j) h2)), Option.bind_some]; exact if_pos (by decide)
/-! the rows, in a list -/
def qfitb (S : pSg) (r : Nat) : Bool := (List.range S.2.2).all (fun i => decide (qtog r (S.1 i) = S.2.1 i))
theorem qfitb_iff (S : pSg) (r : Nat) : qfitb S r = true ↔ qfit S r := by
  simp [qfitb, qfit, List.all_eq_true]
def qrows (S : pSg) : Nat → List Nat
  | 0 => []
  | i + 1 => if qfitb S i = true then qrows S i ++ [i] else qrows S i
theorem qrows_y {S : pSg} {i : Nat} (h : qfit S i) : qrows S (i + 1) = qrows S i ++ [i] := by rw [qrows, if_pos ((qfitb_iff S i).mpr h)]
theorem qrows_n {S : pSg} {i : Nat} (h : ¬ qfit S i) : qrows S (i + 1) = qrows S i := by rw [qrows, if_neg (fun q => h ((qfitb_iff S i).mp q))]
theorem qrows_le {S : pSg} : ∀ i, (qrows S i).length ≤ i := by
  intro i
  induction i with
  | zero => exact Nat.le_refl _
  | succ i ih =>
    by_cases c : qfit S i
    · rw [qrows_y c, List.length_append, List.length_singleton]; omega
    · rw [qrows_n c]; omega
theorem qrows_mem {S : pSg} : ∀ i, ∀ r ∈ qrows S i, r < i := by
  intro i
  induction i with
  | zero => intro r h; cases h
  | succ i ih =>
    intro r h
    by_cases c : qfit S i
    · rw [qrows_y c, List.mem_append, List.mem_singleton] at h
      rcases h with h | h
      · have := ih r h; omega
      · omega
    · rw [qrows_n c] at h
      have := ih r h; omega
theorem qrows_get {S : pSg} {i k v : Nat} (h : (qrows S i)[k]? = some v) : ∀ d, (qrows S (i + d))[k]? = some v := by
  intro d
  induction d with
  | zero => exact h
  | succ d ih =>
    by_cases c : qfit S (i + d)
    · rw [← Nat.add_assoc, qrows_y c, List.getElem?_append_left (List.getElem?_eq_some_iff.mp ih).1]; exact ih
    · rw [← Nat.add_assoc, qrows_n c]; exact ih
def pRw (σ : dc_HP) (b : Nat) (R : List Nat) : Prop := σ.1 b 1 = nI R.length ∧ ∀ k v, R[k]? = some v → σ.1 (b + 3) k = nI v
theorem pl_find {S : pSg} (hk : pSok S) : ∀ d i m (σ : dc_HP), i + d = 100 → d < m → pSC σ 7 S → pRw σ 7 (qrows S i) → ∃ τ, fn_X6_findRows_L7 7 m (nI i) σ = some τ ∧ pRw τ 7 (qrows S 100) ∧ pW (fun c j => c = 10 ∨ (c = 7 ∧ j = 1)) σ τ := by
  intro d
  induction d with
  | zero =>
    intro i m σ hi hm h hr
    obtain ⟨m, rfl⟩ : ∃ n, m = n + 1 := ⟨m - 1, by omega⟩
    obtain rfl : i = 100 := by omega
    unfold fn_X6_findRows_L7
    rw [if_pos (nI_le (Nat.le_refl _) (by decide))]
    exact ⟨σ, rfl, hr, pW.rf⟩
  | succ d ih =>
    intro i m σ hi hm h hr
    obtain ⟨m, rfl⟩ : ∃ n, m = n + 1 := ⟨m - 1, by omega⟩
    obtain ⟨g1, g2⟩ := pc_fits h hk (r := i) (by omega)
    have hl := qrows_le (S := S) i
    unfold fn_X6_findRows_L7
    rw [if_neg (nI_ge (by omega) (by decide)), nI_add]
    by_cases c : qfit S i
    · rw [g1 c, Option.bind_some, if_neg (show ¬ nI 1 = 0 by decide), hr.1, if_neg (nI_ge (by omega) (by decide)), px_gg (by omega) (by decide), nI_clamp (by omega)]
      simp only [dc_let, Nat.reduceAdd]
      have e : (dc_wI σ 10 (qrows S i).length (nI i)).1 7 1 = nI (qrows S i).length := by have := hr.1; simpa [dc_wI] using this
      rw [e, nI_add]
      generalize hα : dc_wI (dc_wI σ 10 (qrows S i).length (nI i)) 7 1 (nI ((qrows S i).length + 1)) = α
      have w : ∀ c j, ¬ (c = 10 ∧ j = (qrows S i).length) → ¬ (c = 7 ∧ j = 1) → α.1 c j = σ.1 c j := fun c j q1 q2 => by rw [← hα]; simp [dc_wI, q1, q2]
      have w1 : α.1 7 1 = nI ((qrows S i).length + 1) := by rw [← hα]; simp [dc_wI]
      have w2 : α.1 10 (qrows S i).length = nI i := by rw [← hα]; simp [dc_wI]
      have w3 : pW (fun c j => c = 10 ∨ (c = 7 ∧ j = 1)) σ α := ⟨fun c j q => w c j (by omega) (by omega), by rw [← hα]; rfl⟩
      obtain ⟨τ, t1, t2, t3⟩ := ih (i + 1) m α (by omega) (by omega) (h.other (w 7 0 (by omega) (by omega)) (fun c j c1 c2 => w (7 + c) j (by omega) (by omega))) (by
        rw [qrows_y c]
        refine ⟨by rw [List.length_append, List.length_singleton]; exact w1, fun k v hv => ?_⟩
        show α.1 10 k = nI v
        by_cases ek : k < (qrows S i).length
        · rw [List.getElem?_append_left ek] at hv
          rw [w 10 k (by omega) (by omega)]
          exact hr.2 k v hv
        · have hl2 := (List.getElem?_eq_some_iff.mp hv).1
          rw [List.length_append, List.length_singleton] at hl2
          obtain rfl : k = (qrows S i).length := by omega
          rw [List.getElem?_append_right (Nat.le_refl _), Nat.sub_self] at hv
          cases hv
          exact w2)
      exact ⟨τ, t1, t2, w3.tr t3⟩
    · rw [g2 c, Option.bind_some, if_pos nI_0]
      exact ih (i + 1) m σ (by omega) (by omega) h (by rw [qrows_n c]; exact hr)
theorem pc_find {σ : dc_HP} {S : pSg} (h : pSC σ 7 S) (hk : pSok S) : ∃ τ, fn_X6_findRows σ 7 = some τ ∧ pRw τ 7 (qrows S 100) ∧ pW (fun c j => c = 10 ∨ (c = 7 ∧ j = 1)) σ τ := by
  have w : ∀ c j, ¬ (c = 7 ∧ j = 1) → (dc_wI σ 7 1 (nI 0)).1 c j = σ.1 c j := fun c j q => by simp [dc_wI, q]
  obtain ⟨τ, t1, t2, t3⟩ := pl_find hk 100 0 200 (dc_wI σ 7 1 (nI 0)) rfl (by decide) (h.other (w 7 0 (by omega)) (fun c j c1 c2 => w (7 + c) j (by omega))) ⟨by simp [dc_wI, qrows], fun k v hv => by cases hv⟩
  refine ⟨τ, ?_, t2, (pW.rf.w (show _ from Or.inr ⟨rfl, rfl⟩)).tr t3⟩
  unfold fn_X6_findRows
  simp only [dc_let]
  rw [t1, Option.bind_some]
theorem pl_mholds {σ : dc_HP} {S : pSg} (h : pSM σ S) (hk : pSok S) (x : Int32) : ∀ d i m, i + d = 100 → d < m → (∀ k, (nI k = x ∧ k < 2 ^ 31) → (qrows S i).length ≤ k) → (∀ k v, nI k = x → k < 2 ^ 31 → (qrows S 100)[k]? = some v → fn_X9_holds_L4 σ x m (nI (qrows S i).length) (nI i) = some (.inl (nI v))) ∧ ((∀ k, nI k = x → k < 2 ^ 31 → (qrows S 100).length ≤ k) → fn_X9_holds_L4 σ x m (nI (qrows S i).length) (nI i) = some (.inr (nI (qrows S 100).length))) := by
  intro d
  induction d with
  | zero =>
    intro i m hi hm hb
    obtain ⟨m, rfl⟩ : ∃ n, m = n + 1 := ⟨m - 1, by omega⟩
    obtain rfl : i = 100 := by omega
    unfold fn_X9_holds_L4
    rw [if_pos (nI_le (Nat.le_refl _) (by decide))]
    refine ⟨fun k v e hk2 hv => ?_, fun _ => rfl⟩
    have := hb k ⟨e, hk2⟩
    have := (List.getElem?_eq_some_iff.mp hv).1
    omega
  | succ d ih =>
    intro i m hi hm hb
    obtain ⟨m, rfl⟩ : ∃ n, m = n + 1 := ⟨m - 1, by omega⟩
    obtain ⟨g1, g2⟩ := pm_fits h hk (r := i) (by omega)
    have hl := qrows_le (S := S) i
    unfold fn_X9_holds_L4
    rw [if_neg (nI_ge (by omega) (by decide)), nI_add, nI_add]
    by_cases c : qfit S i
    · rw [g1 c, Option.bind_some, if_neg (show ¬ nI 1 = 0 by decide)]
      have hg : (qrows S 100)[(qrows S i).length]? = some i := by
        have := qrows_get (S := S) (i := i + 1) (k := (qrows S i).length) (v := i) (by rw [qrows_y c, List.getElem?_append_right (Nat.le_refl _), Nat.sub_self]; rfl) d
        rwa [show i + 1 + d = 100 by omega] at this
      by_cases e : nI (qrows S i).length = x
      · rw [if_pos e]
        refine ⟨fun k v ek hk2 hv => ?_, fun q => ?_⟩
        · have : k = (qrows S i).length := (nI_eq hk2 (by omega)).mp (ek.trans e.symm)
          rw [this, hg] at hv
          cases hv
          rfl
        · have := q _ e (by omega)
          have := (List.getElem?_eq_some_iff.mp hg).1
          omega
      · rw [if_neg e]
        have := ih (i + 1) m (by omega) (by omega) (fun k q => by
          rw [qrows_y c, List.length_append, List.length_singleton]
          have h1 := hb k q
          have h2 : k ≠ (qrows S i).length := fun z => e (by rw [← z]; exact q.1)
          omega)
        rw [qrows_y c, List.length_append, List.length_singleton] at this
        exact this
    · rw [g2 c, Option.bind_some, if_pos nI_0]
      have := ih (i + 1) m (by omega) (by omega) (by rw [qrows_n c]; exact hb)
      rw [qrows_n c] at this
      exact this
