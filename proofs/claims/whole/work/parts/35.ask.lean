/-! ask -/
def qst (v : Nat) (a : (Nat → Nat) × Nat) (r : Nat) : (Nat → Nat) × Nat := (pu a.1 (qtog r v) (a.1 (qtog r v) + 1), max a.2 (a.1 (qtog r v) + 1))
def qz0 : (Nat → Nat) × Nat := (fun _ => 0, 0)
def qaB (a : (Nat → Nat) × Nat) (n : Nat) : Prop := (∀ s, a.1 s ≤ n) ∧ a.2 ≤ n
theorem qst_b {v r n : Nat} {a : (Nat → Nat) × Nat} (h : qaB a n) : qaB (qst v a r) (n + 1) := by
  have h1 := h.1 (qtog r v)
  refine ⟨fun s => ?_, ?_⟩
  · show pu a.1 (qtog r v) (a.1 (qtog r v) + 1) s ≤ n + 1
    unfold pu; split
    · omega
    · have := h.1 s; omega
  · show max a.2 (a.1 (qtog r v) + 1) ≤ n + 1
    have := h.2; omega
def pTl (σ : dc_HP) (c : Nat) (t : Nat → Nat) : Prop := ∀ s, s < 19 → σ.1 c s = nI (t s)
def W11 (c _ : Nat) : Prop := c = 11
def W72 (c _ : Nat) : Prop := c = 72
theorem pTl.st {σ : dc_HP} {c : Nat} {t : Nat → Nat} (h : pTl σ c t) (s n : Nat) : pTl (dc_wI σ c s (nI n)) c (pu t s n) := by
  intro j hj
  by_cases e : j = s
  · subst e; rw [pu_s]; simp [dc_wI]
  · rw [pu_n _ _ e]; have := h j hj; simpa [dc_wI, e] using this
theorem pl_zero (x : Int32) : ∀ d i m σ, i + d = 19 → d < m → (∀ s, s < i → σ.1 11 s = nI 0) → ∃ τ, fn_X6_mostLeft_L2 7 x m (nI i) σ = some τ ∧ pTl τ 11 qz0.1 ∧ pW W11 σ τ := by
  intro d
  induction d with
  | zero =>
    intro i m σ hi hm h
    obtain ⟨m, rfl⟩ : ∃ n, m = n + 1 := ⟨m - 1, by omega⟩
    unfold fn_X6_mostLeft_L2
    rw [if_pos (nI_le (by omega) (by omega))]
    exact ⟨σ, rfl, fun s hs => h s (by omega), pW.rf⟩
  | succ d ih =>
    intro i m σ hi hm h
    obtain ⟨m, rfl⟩ : ∃ n, m = n + 1 := ⟨m - 1, by omega⟩
    unfold fn_X6_mostLeft_L2
    rw [if_neg (nI_ge (by omega) (by decide)), px_gg (by omega) (by decide), nI_clamp (by omega), nI_add]
    simp only [dc_let, Nat.reduceAdd]
    obtain ⟨τ, t1, t2, t3⟩ := ih (i + 1) m (dc_wI σ 11 i (nI 0)) (by omega) (by omega) (fun s hs => by
      by_cases e : s = i
      · subst e; simp [dc_wI]
      · have := h s (by omega); simpa [dc_wI, e] using this)
    exact ⟨τ, t1, t2, (pW.rf.w (show W11 11 _ from rfl)).tr t3⟩
theorem pl_mzero (x y : Int32) (hy : y = nI 0) : ∀ d i m σ, i + d = 19 → d < m → (∀ s, s < i → σ.1 72 s = nI 0) → ∃ τ, fn_X9_mostLeft_L4 x y m (nI i) σ = some τ ∧ pTl τ 72 qz0.1 ∧ pW W72 σ τ := by
  intro d
  induction d with
  | zero =>
    intro i m σ hi hm h
    obtain ⟨m, rfl⟩ : ∃ n, m = n + 1 := ⟨m - 1, by omega⟩
    unfold fn_X9_mostLeft_L4
    rw [if_pos (nI_le (by omega) (by omega))]
    exact ⟨σ, rfl, fun s hs => h s (by omega), pW.rf⟩
  | succ d ih =>
    intro i m σ hi hm h
    obtain ⟨m, rfl⟩ : ∃ n, m = n + 1 := ⟨m - 1, by omega⟩
    unfold fn_X9_mostLeft_L4
    rw [if_neg (nI_ge (by omega) (by decide)), px_gg (by omega) (by decide), nI_clamp (by omega), nI_add]
    simp only [dc_let]
    obtain ⟨τ, t1, t2, t3⟩ := ih (i + 1) m (dc_wI σ 72 i (nI 0)) (by omega) (by omega) (fun s hs => by
      by_cases e : s = i
      · subst e; simp [dc_wI]
      · have := h s (by omega); simpa [dc_wI, e] using this)
    exact ⟨τ, t1, t2, (pW.rf.w (show W72 72 _ from rfl)).tr t3⟩
theorem pRw.w {σ τ : dc_HP} {R : List Nat} (h : pRw σ 7 R) (g : pW W11 σ τ) : pRw τ 7 R := ⟨(g.1 7 1 (by unfold W11; omega)).trans h.1, fun k v hv => (g.1 10 k (by unfold W11; omega)).trans (h.2 k v hv)⟩
theorem px_max1 {a b : Nat} (ha : a < 2 ^ 31) (hb : b < 2 ^ 31) : (if nI a < nI b then nI b else nI a) = nI (max a b) := by
  by_cases c : a < b
  · rw [if_pos ((nI_ltI ha hb).mpr c), Nat.max_eq_right (by omega)]
  · rw [if_neg (fun q => c ((nI_ltI ha hb).mp q)), Nat.max_eq_left (by omega)]
theorem pl_most {R : List Nat} (hR : R.length ≤ 100) (hr : ∀ r ∈ R, r < 100) {v : Nat} (hv : v ≤ 9) : ∀ (L : List Nat) k m σ a, R.drop k = L → k ≤ R.length → pRw σ 7 R → pTl σ 11 a.1 → qaB a k → L.length < m → ∃ τ, fn_X6_mostLeft_L25 7 (nI v) m (nI a.2) (nI k) σ = some (nI (L.foldl (qst v) a).2, τ) ∧ pW W11 σ τ := by
  intro L
  induction L with
  | nil =>
    intro k m σ a hd hk h ht hb hm
    obtain ⟨m, rfl⟩ : ∃ n, m = n + 1 := ⟨m - 1, by simp at hm; omega⟩
    have : R.length ≤ k := by simpa using hd
    unfold fn_X6_mostLeft_L25
    rw [h.1, if_pos (nI_le this (by omega))]
    exact ⟨σ, rfl, pW.rf⟩
  | cons r L ih =>
    intro k m σ a hd hk h ht hb hm
    obtain ⟨m, rfl⟩ : ∃ n, m = n + 1 := ⟨m - 1, by simp at hm; omega⟩
    have hlt : k < R.length := by
      have := congrArg List.length hd
      simp at this
      omega
    have hrk : R[k]? = some r := by
      have := congrArg (fun l => l[0]?) hd
      simpa using this
    have hd' : R.drop (k + 1) = L := by
      have := congrArg (fun l => l.drop 1) hd
      simpa [List.drop_drop, Nat.add_comm] using this
    have hr100 := hr r (List.mem_of_getElem? hrk)
    have hs := qtog_le (r := r) (a := v) hr100
    have hts := hb.1 (qtog r v)
    have hb2 := hb.2
    unfold fn_X6_mostLeft_L25
    rw [h.1, if_neg (nI_ge hlt (by omega)), fn_X6_rowAt, if_neg (nI_pos (by omega)), h.1, if_neg (nI_ge hlt (by omega)), if_neg (nI_ge (by omega) (by decide)), px_gg (by omega) (by decide), nI_clamp (by omega), h.2 k r hrk, Option.bind_some, px_sumOf (by omega) (by omega), Option.bind_some, px_withinN (by omega) (by decide) (by decide), if_pos (show 0 ≤ qtog r v ∧ qtog r v ≤ 18 by omega), Option.bind_some, if_neg (show ¬ nI 1 = 0 by decide), px_gg (show qtog r v < 19 by omega) (by decide), px_gg (show qtog r v < 19 by omega) (by decide), nI_clamp (show qtog r v < 2 ^ 31 by omega)]
    simp only [dc_let, Nat.reduceAdd]
    rw [if_neg (show ¬ (nI (qtog r v) < 0 ∨ 19 ≤ qtog r v) from fun q => q.elim (nI_pos (by omega)) (by omega)), ht _ (by omega), nI_add, nI_add]
    have e : (dc_wI σ 11 (qtog r v) (nI (a.1 (qtog r v) + 1))).1 11 (qtog r v) = nI (a.1 (qtog r v) + 1) := by simp [dc_wI]
    rw [e, px_max1 (by omega) (by omega)]
    have w : pW W11 σ (dc_wI σ 11 (qtog r v) (nI (a.1 (qtog r v) + 1))) := pW.rf.w (show W11 11 _ from rfl)
    obtain ⟨τ, t1, t2⟩ := ih (k + 1) m _ (qst v a r) hd' (by omega) (h.w w) (ht.st _ _) (qst_b hb) (by simp at hm; omega)
    exact ⟨τ, t1, w.tr t2⟩
theorem pl_mmost {S : pSg} (hS : pSok S) {v : Nat} (hv : v ≤ 9) : ∀ d i m σ, i + d = 100 → d < m → pSM σ S → pTl σ 72 ((qrows S i).foldl (qst v) qz0).1 → qaB ((qrows S i).foldl (qst v) qz0) i → ∃ τ, fn_X9_mostLeft_L25 (nI v) m (nI ((qrows S i).foldl (qst v) qz0).2) (nI i) σ = some (nI ((qrows S 100).foldl (qst v) qz0).2, τ) ∧ pW W72 σ τ := by
  intro d
  induction d with
  | zero =>
    intro i m σ hi hm h ht hb
    obtain ⟨m, rfl⟩ : ∃ n, m = n + 1 := ⟨m - 1, by omega⟩
    obtain rfl : i = 100 := by omega
    unfold fn_X9_mostLeft_L25
    rw [if_pos (nI_le (Nat.le_refl _) (by decide))]
    exact ⟨σ, rfl, pW.rf⟩
  | succ d ih =>
    intro i m σ hi hm h ht hb
    obtain ⟨m, rfl⟩ : ∃ n, m = n + 1 := ⟨m - 1, by omega⟩
    obtain ⟨g1, g2⟩ := pm_fits h hS (r := i) (by omega)
    have hs := qtog_le (r := i) (a := v) (by omega)
    have hb2 := hb.2
    unfold fn_X9_mostLeft_L25
    rw [if_neg (nI_ge (by omega) (by decide)), nI_add]
    by_cases c : qfit S i
    · have hts := hb.1 (qtog i v)
      have e0 : (qrows S (i + 1)).foldl (qst v) qz0 = qst v ((qrows S i).foldl (qst v) qz0) i := by rw [qrows_y c, List.foldl_append]; rfl
      generalize hA : (qrows S i).foldl (qst v) qz0 = A at *
      rw [g1 c, Option.bind_some, if_neg (show ¬ nI 1 = 0 by decide), px_tgr (by omega) (by omega), Option.bind_some, px_gg (show qtog i v < 19 by omega) (by decide), px_gg (show qtog i v < 19 by omega) (by decide), nI_clamp (show qtog i v < 2 ^ 31 by omega)]
      simp only [dc_let]
      have ng : ¬ (nI (qtog i v) < 0 ∨ 19 ≤ qtog i v) := fun q => q.elim (nI_pos (by omega)) (by omega)
      rw [if_neg ng, ht _ (by omega), nI_add]
      have e : (dc_wI σ 72 (qtog i v) (nI (A.1 (qtog i v) + 1))).1 72 (qtog i v) = nI (A.1 (qtog i v) + 1) := by simp [dc_wI]
      rw [e]
      have w : pW W72 σ (dc_wI σ 72 (qtog i v) (nI (A.1 (qtog i v) + 1))) := pW.rf.w (show W72 72 _ from rfl)
      have hn := ih (i + 1) m (dc_wI σ 72 (qtog i v) (nI (A.1 (qtog i v) + 1))) (by omega) (by omega) (h.other (w.1 55 11 (by unfold W72; decide)) (fun c j c1 c2 => w.1 c j (by unfold W72; omega))) (by rw [e0]; exact ht.st _ _) (by rw [e0]; exact qst_b hb)
      rw [e0] at hn
      obtain ⟨τ, t1, t2⟩ := hn
      have em : (qst v A i).2 = max A.2 (A.1 (qtog i v) + 1) := rfl
      rw [em] at t1
      refine ⟨τ, ?_, w.tr t2⟩
      by_cases cm : A.1 (qtog i v) + 1 ≤ A.2
      · rw [if_pos (nI_le cm (by omega))]
        rw [Nat.max_eq_left cm] at t1
        exact t1
      · rw [if_neg (nI_ge (by omega) (by omega)), if_neg ng]
        rw [Nat.max_eq_right (by omega)] at t1
        exact t1
    · rw [g2 c, Option.bind_some, if_pos nI_0]
      have := ih (i + 1) m σ (by omega) (by omega) h (by rw [qrows_n c]; exact ht) (by rw [qrows_n c]; exact ⟨fun s => Nat.le_succ_of_le (hb.1 s), Nat.le_succ_of_le hb.2⟩)
      rw [qrows_n c] at this
      exact this
def qmost (S : pSg) (v : Nat) : Nat := ((qrows S 100).foldl (qst v) qz0).2
theorem qz0_b : qaB qz0 0 := ⟨fun _ => Nat.le_refl _, Nat.le_refl _⟩
theorem pc_most {σ : dc_HP} {S : pSg} {v : Nat} (hv : v ≤ 9) (h : pRw σ 7 (qrows S 100)) : ∃ τ, fn_X6_mostLeft σ 7 (nI v) = some (nI (qmost S v), τ) ∧ pW W11 σ τ := by
  obtain ⟨α, a1, a2, a3⟩ := pl_zero (nI v) 19 0 200 σ rfl (by decide) (fun s hs => absurd hs (Nat.not_lt_zero s))
  have hl := qrows_le (S := S) 100
  obtain ⟨τ, t1, t2⟩ := pl_most (R := qrows S 100) hl (qrows_mem 100) hv (qrows S 100) 0 200 α qz0 rfl (Nat.zero_le _) (h.w a3) a2 qz0_b (by omega)
  refine ⟨τ, ?_, a3.tr t2⟩
  unfold fn_X6_mostLeft
  rw [a1, Option.bind_some, show nI 0 = nI qz0.2 from rfl] 
  rw [show nI qz0.2 = nI 0 from rfl] at t1 ⊢
  rw [t1, Option.bind_some]
  rfl
theorem pm_most {σ : dc_HP} {S : pSg} (hS : pSok S) {v : Nat} (hv : v ≤ 9) (h : pSM σ S) : ∃ τ, fn_X9_mostLeft σ (nI v) = some (nI (qmost S v), τ) ∧ pW W72 σ τ := by
  obtain ⟨α, a1, a2, a3⟩ := pl_mzero (nI v) (nI 0) rfl 19 0 200 σ rfl (by decide) (fun s hs => absurd hs (Nat.not_lt_zero s))
  obtain ⟨τ, t1, t2⟩ := pl_mmost hS hv 100 0 200 α rfl (by decide) (h.other (a3.1 55 11 (by unfold W72; decide)) (fun c j c1 c2 => a3.1 c j (by unfold W72; omega))) a2 qz0_b
  refine ⟨τ, ?_, a3.tr t2⟩
  have t1' : fn_X9_mostLeft_L25 (nI v) 200 (nI 0) (nI 0) α = some (nI (qmost S v), τ) := t1
  unfold fn_X9_mostLeft
  rw [a1, Option.bind_some, t1', Option.bind_some]
