theorem qrows_b {S : pSg} {v : Nat} : ∀ i, qaB ((qrows S i).foldl (qst v) qz0) i := by
  intro i
  induction i with
  | zero => exact qz0_b
  | succ i ih =>
    by_cases c : qfit S i
    · rw [qrows_y c, List.foldl_append]; exact qst_b ih
    · rw [qrows_n c]; exact ⟨fun s => Nat.le_succ_of_le (ih.1 s), Nat.le_succ_of_le ih.2⟩
theorem qmost_le {S : pSg} {v : Nat} : qmost S v ≤ 100 := (qrows_b 100).2
theorem qfold_le {v : Nat} : ∀ (L : List Nat) a, a.2 ≤ (L.foldl (qst v) a).2 := by
  intro L
  induction L with
  | nil => intro a; exact Nat.le_refl _
  | cons r L ih =>
    intro a
    have := ih (qst v a r)
    have e : a.2 ≤ (qst v a r).2 := Nat.le_max_left _ _
    show a.2 ≤ (L.foldl (qst v) (qst v a r)).2
    omega
theorem qmost_0 {S : pSg} {v : Nat} (h : (qrows S 100).length = 0) : qmost S v = 0 := by
  unfold qmost
  rw [List.eq_nil_of_length_eq_zero h]
  rfl
theorem qmost_1 {S : pSg} {v : Nat} (h : (qrows S 100).length ≠ 0) : 1 ≤ qmost S v := by
  unfold qmost
  cases hR : qrows S 100 with
  | nil => rw [hR] at h; exact absurd rfl h
  | cons r L =>
    have := qfold_le (v := v) L (qst v qz0 r)
    have e : 1 ≤ (qst v qz0 r).2 := Nat.le_max_right _ _
    show 1 ≤ (L.foldl (qst v) (qst v qz0 r)).2
    omega
def qaskl (S : pSg) : Nat → Nat → Nat × Nat → Nat × Nat
  | 0, _, p => p
  | f + 1, v, p => qaskl S f (v + 1) (if p.2 ≤ qmost S v then p else (v, qmost S v))
theorem qaskl_b {S : pSg} {c : Nat} (hc : ∀ v, c ≤ qmost S v) : ∀ f v p, c ≤ p.2 → c ≤ (qaskl S f v p).2 := by
  intro f
  induction f with
  | zero => intro v p h; exact h
  | succ f ih =>
    intro v p h
    rw [qaskl]
    split
    · exact ih _ _ h
    · exact ih _ _ (hc v)
theorem qaskl_0 {S : pSg} (hc : ∀ v, qmost S v = 0) : ∀ f v p, p.2 = 0 → (qaskl S f v p).2 = 0 := by
  intro f
  induction f with
  | zero => intro v p h; exact h
  | succ f ih =>
    intro v p h
    rw [qaskl]
    split
    · exact ih _ _ h
    · exact ih _ _ (hc v)
theorem pl_ask (x : Int32) {S : pSg} : ∀ d v m σ p, v + d = 10 → d < m → p.2 ≤ 100 → pRw σ 7 (qrows S 100) → ∃ τ, fn_X8_ask_L46 x m (nI p.1) (nI p.2) (nI v) σ = some (nI (qaskl S d v p).1, nI (qaskl S d v p).2, τ) ∧ pW W11 σ τ := by
  intro d
  induction d with
  | zero =>
    intro v m σ p hi hm hp h
    obtain ⟨m, rfl⟩ : ∃ n, m = n + 1 := ⟨m - 1, by omega⟩
    unfold fn_X8_ask_L46
    rw [if_pos ((nI_ltI (by decide) (by omega)).mpr (by omega))]
    exact ⟨σ, rfl, pW.rf⟩
  | succ d ih =>
    intro v m σ p hi hm hp h
    obtain ⟨m, rfl⟩ : ∃ n, m = n + 1 := ⟨m - 1, by omega⟩
    obtain ⟨α, a1, a2⟩ := pc_most (v := v) (by omega) h
    have hq := qmost_le (S := S) (v := v)
    unfold fn_X8_ask_L46
    rw [if_neg (fun q => by have := (nI_ltI (by decide) (by omega)).mp q; omega), a1, Option.bind_some, nI_add, qaskl]
    dsimp only
    by_cases c : p.2 ≤ qmost S v
    · rw [if_pos (nI_le c (by omega)), if_pos c]
      obtain ⟨τ, t1, t2⟩ := ih (v + 1) m α p (by omega) (by omega) hp (h.w a2)
      exact ⟨τ, t1, a2.tr t2⟩
    · rw [if_neg (nI_ge (by omega) (by omega)), if_neg c]
      obtain ⟨τ, t1, t2⟩ := ih (v + 1) m α (v, qmost S v) (by omega) (by omega) hq (h.w a2)
      exact ⟨τ, t1, a2.tr t2⟩
theorem pSM.w72 {σ τ : dc_HP} {S : pSg} (h : pSM σ S) (g : pW W72 σ τ) : pSM τ S := h.other (g.1 55 11 (by unfold W72; decide)) (fun c j c1 c2 => g.1 c j (by unfold W72; omega))
theorem pl_mask (x : Int32) {S : pSg} (hS : pSok S) : ∀ d v m σ p, v + d = 10 → d < m → p.2 ≤ 100 → pSM σ S → ∃ τ, fn_X9_ask_L24 x m (nI p.1) (nI p.2) (nI v) σ = some (nI (qaskl S d v p).1, nI (qaskl S d v p).2, τ) ∧ pW W72 σ τ := by
  intro d
  induction d with
  | zero =>
    intro v m σ p hi hm hp h
    obtain ⟨m, rfl⟩ : ∃ n, m = n + 1 := ⟨m - 1, by omega⟩
    unfold fn_X9_ask_L24
    rw [if_pos ((nI_ltI (by decide) (by omega)).mpr (by omega))]
    exact ⟨σ, rfl, pW.rf⟩
  | succ d ih =>
    intro v m σ p hi hm hp h
    obtain ⟨m, rfl⟩ : ∃ n, m = n + 1 := ⟨m - 1, by omega⟩
    obtain ⟨α, a1, a2⟩ := pm_most hS (v := v) (by omega) h
    have hq := qmost_le (S := S) (v := v)
    unfold fn_X9_ask_L24
    rw [if_neg (fun q => by have := (nI_ltI (by decide) (by omega)).mp q; omega), a1, Option.bind_some, nI_add, qaskl]
    dsimp only
    by_cases c : p.2 ≤ qmost S v
    · rw [if_pos (nI_le c (by omega)), if_pos c, Option.bind_some, if_pos (nI_le c (by omega))]
      obtain ⟨τ, t1, t2⟩ := ih (v + 1) m α p (by omega) (by omega) hp (h.w72 a2)
      exact ⟨τ, t1, a2.tr t2⟩
    · rw [if_neg (nI_ge (by omega) (by omega)), if_neg c, Option.bind_some, if_neg (nI_ge (by omega) (by omega))]
      obtain ⟨τ, t1, t2⟩ := ih (v + 1) m α (v, qmost S v) (by omega) (by omega) hq (h.w72 a2)
      exact ⟨τ, t1, a2.tr t2⟩
theorem op_ask (x : Int32) : pOp (fun σ => fn_X8_ask σ x) (fun σ => fn_X9_ask σ x) := by
  intro σ hR
  have hR' := hR
  obtain ⟨G, ho, hc, hm⟩ := hR
  have hS := ho.2.2.1
  have n1 : ¬ nI 1 = 0 := by decide
  by_cases hx : pr x 0 1
  · have e1 := (px_within (x := x) (lo := 0) (hi := 1) (by decide) (by decide)).1 hx
    have f1 := (px_in (x := x) (lo := 0) (hi := 1) (L := 0) (H := 1) (by decide) (by decide)).1 hx
    obtain ⟨τ, t1, t2, t3⟩ := pc_find hc.2.2.1 hS
    have hq := qmost_le (S := G.2.2.1) (v := 1)
    -- the reference, wherever the class's scratch stands
    have ref : ∀ δ, pML δ G → ∃ υ, fn_X9_ask δ x = some (if (qaskl G.2.2.1 8 2 (1, qmost G.2.2.1 1)).2 = 0 then (-6 : Int32) else if x = 0 then nI (qaskl G.2.2.1 8 2 (1, qmost G.2.2.1 1)).1 else nI (qaskl G.2.2.1 8 2 (1, qmost G.2.2.1 1)).2, υ) ∧ pW W72 δ υ := by
      intro δ hδ
      obtain ⟨α, a1, a2⟩ := pm_most hS (v := 1) (by decide) hδ.2.2.1
      obtain ⟨υ, b1, b2⟩ := pl_mask x hS 8 2 200 α (1, qmost G.2.2.1 1) rfl (by decide) hq (hδ.2.2.1.w72 a2)
      refine ⟨υ, ?_, a2.tr b2⟩
      have b1' : fn_X9_ask_L24 x 200 (nI 1) (nI (qmost G.2.2.1 1)) (nI 2) α = some (nI (qaskl G.2.2.1 8 2 (1, qmost G.2.2.1 1)).1, nI (qaskl G.2.2.1 8 2 (1, qmost G.2.2.1 1)).2, υ) := b1
      have hle : (qaskl G.2.2.1 8 2 (1, qmost G.2.2.1 1)).2 ≤ 100 := by
        have : ∀ f v p, p.2 ≤ 100 → (qaskl G.2.2.1 f v p).2 ≤ 100 := by
          intro f
          induction f with
          | zero => intro v p h; exact h
          | succ f ih =>
            intro v p h
            rw [qaskl]
            split
            · exact ih _ _ h
            · exact ih _ _ qmost_le
        exact this 8 2 _ hq
      generalize qaskl G.2.2.1 8 2 (1, qmost G.2.2.1 1) = P at b1' hle ⊢
      unfold fn_X9_ask
      rw [f1, Option.bind_some, if_neg n1, a1, Option.bind_some, b1', Option.bind_some]
      dsimp only
      by_cases c : P.2 = 0
      · rw [if_pos ((px_eq0 (by omega)).mpr c), if_pos c]
      · rw [if_neg (fun q => c ((px_eq0 (by omega)).mp q)), if_neg c]
        split <;> rfl
    have hl := qrows_le (S := G.2.2.1) 100
    have keep : ∀ δ υ, pW (fun c j => c = 11 ∨ c = 10 ∨ (c = 7 ∧ j = 1)) σ δ → pML δ G ∧ (pW W72 δ υ → pRL υ) := by
      intro δ υ w
      have hmδ : pML δ G := hm.other ho (fun c j u => w.1 c j (by unfold Um at u; omega))
      have hcδ : pCL δ G := hc.other (fun c j u => w.1 c j (by unfold Uc at u; omega))
      refine ⟨hmδ, fun g => ⟨G, ho, hcδ.other (fun c j u => g.1 c j (by unfold Uc at u; unfold W72; omega)), hmδ.other ho (fun c j u => g.1 c j (by unfold Um at u; unfold W72; omega))⟩⟩
    by_cases c : (qrows G.2.2.1 100).length = 0
    · have w : pW (fun c j => c = 11 ∨ c = 10 ∨ (c = 7 ∧ j = 1)) σ τ := t3.mono (fun c j z => Or.inr z)
      obtain ⟨υ, u1, u2⟩ := ref τ (keep τ τ w).1
      rw [if_pos (qaskl_0 (fun v => qmost_0 c) 8 2 _ (qmost_0 c))] at u1
      refine ⟨(-6 : Int32), τ, υ, ?_, u1, (keep τ υ w).2 u2⟩
      show fn_X8_ask σ x = _
      unfold fn_X8_ask
      rw [e1, Option.bind_some, if_neg n1, t1, Option.bind_some, t2.1, c, if_pos nI_0]
    · obtain ⟨α, a1, a2⟩ := pc_most (v := 1) (by decide) t2
      obtain ⟨β, b1, b2⟩ := pl_ask x (S := G.2.2.1) 8 2 200 α (1, qmost G.2.2.1 1) rfl (by decide) hq (t2.w a2)
      have b1' : fn_X8_ask_L46 x 200 (nI 1) (nI (qmost G.2.2.1 1)) (nI 2) α = some (nI (qaskl G.2.2.1 8 2 (1, qmost G.2.2.1 1)).1, nI (qaskl G.2.2.1 8 2 (1, qmost G.2.2.1 1)).2, β) := b1
      have w : pW (fun c j => c = 11 ∨ c = 10 ∨ (c = 7 ∧ j = 1)) σ β := (t3.mono (fun c j z => Or.inr z)).tr ((a2.tr b2).mono (fun c j z => Or.inl z))
      obtain ⟨υ, u1, u2⟩ := ref β (keep β β w).1
      have hp : (qaskl G.2.2.1 8 2 (1, qmost G.2.2.1 1)).2 ≠ 0 := by
        have := qaskl_b (S := G.2.2.1) (c := 1) (fun v => qmost_1 c) 8 2 (1, qmost G.2.2.1 1) (qmost_1 c)
        omega
      rw [if_neg hp] at u1
      refine ⟨_, β, υ, ?_, u1, (keep β υ w).2 u2⟩
      show fn_X8_ask σ x = _
      unfold fn_X8_ask
      rw [e1, Option.bind_some, if_neg n1, t1, Option.bind_some, t2.1, if_neg (fun q => c ((px_eq0 (by omega)).mp q)), a1, Option.bind_some, b1', Option.bind_some]
      dsimp only
      split <;> rfl
  · refine ⟨(-2 : Int32), σ, σ, ?_, ?_, hR'⟩
    · simp only [fn_X8_ask, (px_within (x := x) (lo := 0) (hi := 1) (by decide) (by decide)).2 hx, Option.bind_some]
      rw [if_pos nI_0]
    · simp only [fn_X9_ask, (px_in (x := x) (lo := 0) (hi := 1) (L := 0) (H := 1) (by decide) (by decide)).2 hx, Option.bind_some]
      rw [if_pos nI_0]
