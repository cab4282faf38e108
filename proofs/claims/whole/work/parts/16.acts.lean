/-! acts: what they do to the choir (a state: the choir, and what was sung off) -/
abbrev pT : Type := pV × Nat
def pCS (σ : dc_HP) (b : Nat) (s : pT) : Prop := pC σ b s.1 ∧ σ.1 b 4 = nI s.2
/-- nothing but the cells lo to hi was written -/
def pF (lo hi : Nat) (σ τ : dc_HP) : Prop := (∀ c j, c < lo ∨ hi < c → τ.1 c j = σ.1 c j) ∧ τ.2 = σ.2
theorem pF.rf {lo hi : Nat} {σ : dc_HP} : pF lo hi σ σ := ⟨fun _ _ _ => rfl, rfl⟩
theorem pF.tr {lo hi : Nat} {σ τ υ : dc_HP} (h : pF lo hi σ τ) (g : pF lo hi τ υ) : pF lo hi σ υ := ⟨fun c j q => (g.1 c j q).trans (h.1 c j q), g.2.trans h.2⟩
theorem pF.mono {lo hi lo' hi' : Nat} {σ τ : dc_HP} (h : pF lo hi σ τ) (h1 : lo' ≤ lo) (h2 : hi ≤ hi') : pF lo' hi' σ τ := ⟨fun c j q => h.1 c j (by omega), h.2⟩
theorem pF.w {lo hi : Nat} {σ τ : dc_HP} (h : pF lo hi σ τ) {k j : Nat} {v : Int32} (h1 : lo ≤ k) (h2 : k ≤ hi) : pF lo hi σ (dc_wI τ k j v) := ⟨fun c i q => by
  have : c ≠ k := by omega
  simp only [dc_wI, this, false_and, if_false]
  exact h.1 c i q, h.2⟩
theorem pc_bit {f : Nat → Bool} {k : Nat} (hk : k < 8) : fn_X8_bit (nI (pm f 8)) (nI k) = some (nI (if f k then 1 else 0)) := by
  unfold fn_X8_bit
  rw [px_pmbit _ (by decide) hk]
def qbest (r : Nat → Bool) (de : Nat → Nat) : Nat → Option Nat
  | 0 => none
  | n + 1 => if r n = true ∧ (∀ j, qbest r de n = some j → de j < de n) then some n else qbest r de n
theorem qbest_in {r : Nat → Bool} {de : Nat → Nat} : ∀ {n j : Nat}, qbest r de n = some j → j < n ∧ r j = true
  | 0, j, h => by cases h
  | n + 1, j, h => by
    unfold qbest at h
    split at h
    · next hc => cases h; exact ⟨Nat.lt_succ_self n, hc.1⟩
    · obtain ⟨h1, h2⟩ := qbest_in h
      exact ⟨Nat.lt_succ_of_lt h1, h2⟩
theorem qbest_ex {r : Nat → Bool} {de : Nat → Nat} : ∀ {n : Nat}, qbest r de n = none → ∀ j, j < n → r j = false
  | 0, _, j, hj => by omega
  | n + 1, h, j, hj => by
    unfold qbest at h
    split at h
    · cases h
    · next hc =>
      have h1 := qbest_ex h
      by_cases e : j = n
      · subst e
        cases hr : r j with
        | false => rfl
        | true => exact absurd ⟨hr, fun i hi => by rw [h] at hi; cases hi⟩ hc
      · exact h1 j (by omega)
def qen : Option Nat → Int32 := fun o => match o with
  | none => (-6 : Int32)
  | some j => nI j
theorem pl_deep {σ : dc_HP} {b : Nat} {V : pV} (h : pC σ b V) (ho : pOk V) {r : Nat → Bool} (hr : ∀ k, k < 8 → r k = true → 0 < pde V k) : ∀ d i n, i + d = 8 → d < n → fn_X0_deepestOf_L5 σ b (nI (pm r 8)) n (qen (qbest r (pde V) i)) (nI i) = some (qen (qbest r (pde V) 8)) := by
  intro d
  induction d with
  | zero =>
    intro i n hi hn
    obtain ⟨m, rfl⟩ : ∃ m, n = m + 1 := ⟨n - 1, by omega⟩
    obtain rfl : i = 8 := by omega
    unfold fn_X0_deepestOf_L5
    rw [if_pos (nI_le (Nat.le_refl 8) (by decide))]
  | succ d ih =>
    intro i n hi hn
    obtain ⟨m, rfl⟩ : ∃ m, n = m + 1 := ⟨n - 1, by omega⟩
    unfold fn_X0_deepestOf_L5
    have g := ih (i + 1) m (by omega) (by omega)
    have hdi := ho.2.2.1 i (by omega)
    rw [if_neg (nI_ge (by omega) (by decide)), pc_bit (by omega), Option.bind_some, nI_add]
    cases hri : r i with
    | false =>
      rw [if_neg (by simp [nI_eq])]
      have e : qbest r (pde V) (i + 1) = qbest r (pde V) i := by
        rw [qbest, if_neg]
        rw [hri]; simp
      rw [e] at g
      exact g
    | true =>
      rw [if_pos rfl, if_pos rfl, pc_debtOf h ho (by omega), Option.bind_some]
      have h0 := hr i (by omega) hri
      cases hq : qbest r (pde V) i with
      | none =>
        have e : qbest r (pde V) (i + 1) = some i := by
          rw [qbest, if_pos ⟨hri, fun j hj => by rw [hq] at hj; cases hj⟩]
        rw [e] at g
        show (fn_X0_debtOf σ b (-6 : Int32)).bind _ = _
        rw [pc_debtOfm6, Option.bind_some, if_neg (nI_ge h0 (by omega))]
        exact g
      | some j =>
        obtain ⟨hj, -⟩ := qbest_in hq
        have hdj := ho.2.2.1 j (by omega)
        show (fn_X0_debtOf σ b (nI j)).bind _ = _
        rw [pc_debtOf h ho (by omega), Option.bind_some]
        by_cases c : pde V i ≤ pde V j
        · rw [if_pos (nI_le c (by omega))]
          have e : qbest r (pde V) (i + 1) = some j := by
            rw [qbest, if_neg, hq]
            rintro ⟨-, q⟩
            have := q j hq
            omega
          rw [e] at g
          exact g
        · rw [if_neg (nI_ge (by omega) (by omega))]
          have e : qbest r (pde V) (i + 1) = some i := by
            rw [qbest, if_pos ⟨hri, fun j' hj' => by rw [hq] at hj'; cases hj'; omega⟩]
          rw [e] at g
          exact g
theorem pc_deep {σ : dc_HP} {b : Nat} {V : pV} (h : pC σ b V) (ho : pOk V) {r : Nat → Bool} (hr : ∀ k, k < 8 → r k = true → 0 < pde V k) : fn_X0_deepestOf σ b (nI (pm r 8)) = some (qen (qbest r (pde V) 8)) := by
  unfold fn_X0_deepestOf
  have e := pl_deep h ho hr 8 0 200 rfl (by decide)
  rw [show qen (qbest r (pde V) 0) = (-6 : Int32) from rfl] at e
  rw [e]
  rfl
theorem qrdy_pos {V : pV} {v k : Nat} (h : qrdy V v k = true) : 0 < pde V k ∧ pth V k = true := by
  simp only [qrdy, qmay, qfree, Bool.and_eq_true, Bool.not_eq_true', decide_eq_true_eq, Bool.and_eq_false_iff, decide_eq_false_iff_not] at h
  obtain ⟨⟨⟨⟨-, h1⟩, -⟩, -⟩, h2⟩ := h
  refine ⟨?_, h1⟩
  rcases h2 with h2 | h2
  · rw [h1] at h2; cases h2
  · omega
/-- one who sings: the deepest in debt of those that can -/
def qsing1 (v w : Nat) (s : pT) : pT := match qbest (qrdy s.1 v) (pde s.1) 8 with
  | none => s
  | some k => (pSsa (pSde s.1 (pu (pde s.1) k (pde s.1 k - min w (pde s.1 k)))) (fun j => decide (j = k) || psa s.1 j), s.2 + min w (pde s.1 k))
theorem qsing1_ok {v w : Nat} {s : pT} (ho : pOk s.1) : pOk (qsing1 v w s).1 := by
  unfold qsing1
  split
  · exact ho
  · next k hk =>
    obtain ⟨h1, h2⟩ := qbest_in hk
    have ht := (qrdy_pos h2).2
    have hd := ho.2.2.1 k h1
    refine (ho.de (by omega) ht).sa (fun j hj hf => ?_)
    have : j ≠ k := fun e => by subst e; rw [show pth s.1 j = false from hf] at ht; cases ht
    simp [this, (ho.2.2.2.2.2.2 j hj hf).2.1]
/-- what a state keeps while pieces are sung -/
def pKeep (s t : pT) : Prop := pth t.1 = pth s.1 ∧ pho t.1 = pho s.1 ∧ pev t.1 = pev s.1 ∧ pvo t.1 = pvo s.1 ∧ pnd t.1 = pnd s.1 ∧ pba t.1 = pba s.1 ∧ ppy t.1 = ppy s.1
theorem pKeep.rf {s : pT} : pKeep s s := ⟨rfl, rfl, rfl, rfl, rfl, rfl, rfl⟩
theorem pKeep.tr {s t u : pT} (h : pKeep s t) (g : pKeep t u) : pKeep s u := ⟨g.1.trans h.1, g.2.1.trans h.2.1, g.2.2.1.trans h.2.2.1, g.2.2.2.1.trans h.2.2.2.1, g.2.2.2.2.1.trans h.2.2.2.2.1, g.2.2.2.2.2.1.trans h.2.2.2.2.2.1, g.2.2.2.2.2.2.trans h.2.2.2.2.2.2⟩
theorem pKeep.wq {s t : pT} (h : pKeep s t) (p : Nat) : qw t.1 p = qw s.1 p := by unfold qw; rw [h.2.2.2.2.2.1, h.2.2.2.2.2.2]
theorem qsing1_keep {v w : Nat} {s : pT} : pKeep s (qsing1 v w s) := by
  unfold qsing1
  split
  · exact pKeep.rf
  · exact ⟨rfl, rfl, rfl, rfl, rfl, rfl, rfl⟩
theorem pc_singOff {σ : dc_HP} {b : Nat} {s : pT} (h : pCS σ b s) (ho : pOk s.1) {k w : Nat} (hk : k < 8) (ht : pth s.1 k = true) (hw : w ≤ 540) : ∃ τ, fn_X0_singOff σ b (nI k) (nI w) = some τ ∧ pCS τ b (pSsa (pSde s.1 (pu (pde s.1) k (pde s.1 k - min w (pde s.1 k)))) (fun j => decide (j = k) || psa s.1 j), s.2 + min w (pde s.1 k)) ∧ pF b (b + 5) σ τ := by
  obtain ⟨h, h4⟩ := h
  have hd := ho.2.2.1 k hk
  unfold fn_X0_singOff
  rw [pc_has h hk, Option.bind_some, ht, if_neg (by simp [px_eq0]), pc_debtOf h ho hk, Option.bind_some, Option.bind_some, pc_owe h hk ht]
  have e : (if nI (pde s.1 k) < nI w then nI (pde s.1 k) else nI w) = nI (min w (pde s.1 k)) := by
    by_cases c : pde s.1 k < w
    · rw [if_pos (nI_lt c (by omega)), Nat.min_eq_right (by omega)]
    · rw [if_neg (nI_nlt (by omega) (by omega)), Nat.min_eq_left (by omega)]
  rw [e, pk_sub (Nat.min_le_right _ _), Option.bind_some]
  unfold dc_let
  have h1 := h.de k (pde s.1 k - min w (pde s.1 k))
  refine ⟨_, rfl, ⟨?_, ?_⟩, ((pF.rf.w (by omega) (by omega)).w (by omega) (by omega)).w (by omega) (by omega)⟩
  · refine pC.sa (V := pSde s.1 _) (h1.other (fun j hj => ?_) (fun c j hc _ => ?_)) _ ?_
    · have : j ≠ 4 := by omega
      simp [dc_wI, this]
    · have : ¬ b + c = b := by omega
      simp [dc_wI, this]
      omega
    · have e2 : (dc_wI (dc_wI σ (b + 2) k (nI (pde s.1 k - min w (pde s.1 k)))) b 4 ((dc_wI σ (b + 2) k (nI (pde s.1 k - min w (pde s.1 k)))).1 b 4 + nI (min w (pde s.1 k)))).1 b 2 = nI (pm (psa s.1) 8) := by
        have := h.2.2.1
        simpa [dc_wI] using this
      rw [e2, px_set _ (by decide) hk]
  · have e2 : (dc_wI σ (b + 2) k (nI (pde s.1 k - min w (pde s.1 k)))).1 b 4 = nI s.2 := by simpa [dc_wI] using h4
    simp only [e2, nI_add]
    simp [dc_wI]
def qsv (v w : Nat) : Nat → pT → pT
  | 0, s => s
  | n + 1, s => qsv v w n (qsing1 v w s)
theorem qsv_ok {v w : Nat} : ∀ {n : Nat} {s : pT}, pOk s.1 → pOk (qsv v w n s).1
  | 0, _, h => h
  | n + 1, _, h => qsv_ok (n := n) (qsing1_ok h)
theorem qsv_keep {v w : Nat} : ∀ {n : Nat} {s : pT}, pKeep s (qsv v w n s)
  | 0, _ => pKeep.rf
  | n + 1, _ => qsing1_keep.tr (qsv_keep (n := n))
theorem pl_sv {b p v : Nat} (hp : p < 6) (hv : v < 4) : ∀ d i n σ s, pCS σ b s → pOk s.1 → i + d = pnd s.1 p v → d < n → ∃ τ, fn_X0_sing_L19 b (nI p) (nI v) n (nI i) σ = some τ ∧ pCS τ b (qsv v (qw s.1 p) d s) ∧ pF b (b + 5) σ τ := by
  intro d
  induction d with
  | zero =>
    intro i n σ s h ho hi hn
    obtain ⟨m, rfl⟩ : ∃ m, n = m + 1 := ⟨n - 1, by omega⟩
    have hd := ho.2.2.2.1 p hp v hv
    unfold fn_X0_sing_L19
    rw [pc_needOf h.1 hp hv, Option.bind_some, if_pos (nI_le (by omega) (by omega))]
    exact ⟨σ, rfl, h, pF.rf⟩
  | succ d ih =>
    intro i n σ s h ho hi hn
    obtain ⟨m, rfl⟩ : ∃ m, n = m + 1 := ⟨n - 1, by omega⟩
    have hd := ho.2.2.2.1 p hp v hv
    unfold fn_X0_sing_L19
    rw [pc_needOf h.1 hp hv, Option.bind_some, if_neg (nI_ge (by omega) (by omega)), pc_ready h.1 ho hv, Option.bind_some, pc_deep h.1 ho (fun k _ q => (qrdy_pos q).1), Option.bind_some, pc_worthOf h.1 hp, Option.bind_some, nI_add]
    have key : ∃ τ, fn_X0_singOff σ b (qen (qbest (qrdy s.1 v) (pde s.1) 8)) (nI (qw s.1 p)) = some τ ∧ pCS τ b (qsing1 v (qw s.1 p) s) ∧ pF b (b + 5) σ τ := by
      unfold qsing1
      cases hq : qbest (qrdy s.1 v) (pde s.1) 8 with
      | none =>
        refine ⟨σ, ?_, h, pF.rf⟩
        show fn_X0_singOff σ b (-6 : Int32) _ = _
        unfold fn_X0_singOff
        rw [pc_hasm6]
        simp [nI_0]
      | some k =>
        obtain ⟨h1, h2⟩ := qbest_in hq
        exact pc_singOff h ho h1 (qrdy_pos h2).2 (qw_le ho hp)
    obtain ⟨τ, e1, e2, e3⟩ := key
    rw [e1, Option.bind_some]
    have hk : pKeep s (qsing1 v (qw s.1 p) s) := qsing1_keep
    obtain ⟨υ, g1, g2, g3⟩ := ih (i + 1) m τ (qsing1 v (qw s.1 p) s) e2 (qsing1_ok ho) (by rw [hk.2.2.2.2.1]; omega) (by omega)
    refine ⟨υ, g1, ?_, e3.tr g3⟩
    have e4 : qw (qsing1 v (qw s.1 p) s).1 p = qw s.1 p := hk.wq p
    rw [e4] at g2
    exact g2
def qspl (p : Nat) : Nat → Nat → pT → pT
  | 0, _, s => s
  | d + 1, v, s => qspl p d (v + 1) (qsv v (qw s.1 p) (pnd s.1 p v) s)
def qsing (p : Nat) (s : pT) : pT := qspl p 4 0 s
theorem qspl_ok {p : Nat} : ∀ {d v : Nat} {s : pT}, pOk s.1 → pOk (qspl p d v s).1
  | 0, _, _, h => h
  | d + 1, _, _, h => qspl_ok (d := d) (qsv_ok h)
theorem qspl_keep {p : Nat} : ∀ {d v : Nat} {s : pT}, pKeep s (qspl p d v s)
  | 0, _, _ => pKeep.rf
  | d + 1, _, _ => qsv_keep.tr (qspl_keep (d := d))
theorem pl_sing {b p : Nat} (hp : p < 6) : ∀ d v n σ s, pCS σ b s → pOk s.1 → v + d = 4 → d < n → ∃ τ, fn_X0_sing_L12 b (nI p) n (nI v) σ = some τ ∧ pCS τ b (qspl p d v s) ∧ pF b (b + 5) σ τ := by
  intro d
  induction d with
  | zero =>
    intro v n σ s h ho hi hn
    obtain ⟨m, rfl⟩ : ∃ m, n = m + 1 := ⟨n - 1, by omega⟩
    unfold fn_X0_sing_L12
    rw [if_pos (nI_le (by omega) (by omega))]
    exact ⟨σ, rfl, h, pF.rf⟩
  | succ d ih =>
    intro v n σ s h ho hi hn
    obtain ⟨m, rfl⟩ : ∃ m, n = m + 1 := ⟨n - 1, by omega⟩
    unfold fn_X0_sing_L12
    have hd := ho.2.2.2.1 p hp v (by omega)
    obtain ⟨τ, e1, e2, e3⟩ := pl_sv hp (show v < 4 by omega) (pnd s.1 p v) 0 200 σ s h ho (by omega) (by omega)
    rw [if_neg (nI_ge (by omega) (by decide)), e1, Option.bind_some, nI_add]
    obtain ⟨υ, g1, g2, g3⟩ := ih (v + 1) m τ _ e2 (qsv_ok ho) (by omega) (by omega)
    exact ⟨υ, g1, g2, e3.tr g3⟩
theorem pc_sing {σ : dc_HP} {b : Nat} {s : pT} (h : pCS σ b s) (ho : pOk s.1) {p : Nat} (hp : p < 6) : (qcan s.1 p → ∃ τ, fn_X0_sing σ b (nI p) = some (nI 0, τ) ∧ pCS τ b (qsing p s) ∧ pF b (b + 5) σ τ) ∧ (¬ qcan s.1 p → fn_X0_sing σ b (nI p) = some (nI 4, σ)) := by
  obtain ⟨g1, g2⟩ := pc_can h.1 ho hp
  unfold fn_X0_sing
  refine ⟨fun q => ?_, fun q => ?_⟩
  · obtain ⟨τ, e1, e2, e3⟩ := pl_sing hp 4 0 200 σ s h ho rfl (by decide)
    rw [g1 q, Option.bind_some, if_neg (by decide), e1]
    exact ⟨τ, rfl, e2, e3⟩
  · rw [g2 q, Option.bind_some, if_pos (by decide)]
