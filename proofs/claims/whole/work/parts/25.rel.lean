/-! the relation between the class's cells and the reference's -/
abbrev pSg : Type := (Nat → Nat) × (Nat → Nat) × Nat
def pSok (S : pSg) : Prop := S.2.2 ≤ 8 ∧ ∀ i, i < S.2.2 → 1 ≤ S.1 i ∧ S.1 i ≤ 9 ∧ S.2.1 i ≤ 18
def pSC (σ : dc_HP) (b : Nat) (S : pSg) : Prop := σ.1 b 0 = nI S.2.2 ∧ ∀ i, i < S.2.2 → σ.1 (b + 1) i = nI (S.1 i) ∧ σ.1 (b + 2) i = nI (S.2.1 i)
def pSM (σ : dc_HP) (S : pSg) : Prop := σ.1 55 11 = nI S.2.2 ∧ ∀ i, i < S.2.2 → σ.1 61 i = nI (S.1 i) ∧ σ.1 62 i = nI (S.2.1 i)
abbrev pIm : Type := Option (pV × pSg)
def pIC (σ : dc_HP) (b : Nat) (o : pIm) : Prop := match o with
  | none => σ.1 b 2 = nI 0
  | some x => σ.1 b 2 = nI 1 ∧ pC σ (b + 1) x.1 ∧ pSC σ (b + 7) x.2
/-- what the reference keeps of a choir and of sights, from a place on -/
def pKp (σ : dc_HP) (z : Nat) (V : pV) (S : pSg) : Prop := ∃ hm sm : Nat → Bool, σ.1 75 z = nI (pm (pth V) 8) ∧ σ.1 75 (z + 1) = nI (pm hm 8) ∧ σ.1 75 (z + 2) = nI (pm sm 8) ∧ σ.1 75 (z + 3) = nI (pev V) ∧ σ.1 75 (z + 4) = nI S.2.2 ∧ (∀ k, k < 8 → pth V k = true → hm k = pho V k ∧ sm k = psa V k ∧ σ.1 75 (z + 5 + k) = nI (pvo V k) ∧ σ.1 75 (z + 13 + k) = nI (pde V k)) ∧ (∀ p, p < 6 → ∀ v, v < 4 → σ.1 75 (z + 21 + (4 * p + v)) = nI (pnd V p v)) ∧ (∀ p, p < 6 → σ.1 75 (z + 45 + p) = nI (pba V p)) ∧ (∀ p, p < 6 → σ.1 75 (z + 51 + p) = nI (ppy V p)) ∧ ∀ i, i < S.2.2 → σ.1 75 (z + 57 + i) = nI (S.1 i) ∧ σ.1 75 (z + 65 + i) = nI (S.2.1 i)
def pIM (σ : dc_HP) (k : Nat) (o : pIm) : Prop := match o with
  | none => σ.1 76 k = nI 0
  | some x => σ.1 76 k = nI 1 ∧ pKp σ (90 * k) x.1 x.2
def pIok (o : pIm) : Prop := ∀ x, o = some x → pOk x.1 ∧ pSok x.2
abbrev pG : Type := pV × pPd × pSg × pIm × pIm
def pCL (σ : dc_HP) (G : pG) : Prop := pC σ 1 G.1 ∧ pP σ G.2.1 ∧ pSC σ 7 G.2.2.1 ∧ pIC σ 31 G.2.2.2.1 ∧ pIC σ 43 G.2.2.2.2
def pML (σ : dc_HP) (G : pG) : Prop := pM σ G.1 ∧ pQ σ G.2.1 ∧ pSM σ G.2.2.1 ∧ pIM σ 0 G.2.2.2.1 ∧ pIM σ 1 G.2.2.2.2
def pGok (G : pG) : Prop := pOk G.1 ∧ pPok G.2.1 ∧ pSok G.2.2.1 ∧ pIok G.2.2.2.1 ∧ pIok G.2.2.2.2
def pRL (σ : dc_HP) : Prop := ∃ G : pG, pGok G ∧ pCL σ G ∧ pML σ G
def Uc (c j : Nat) : Prop := (1 ≤ c ∧ c ≤ 6) ∨ (c = 7 ∧ j = 0) ∨ c = 8 ∨ c = 9 ∨ c = 12 ∨ c = 13 ∨ (31 ≤ c ∧ c ≤ 54)
def Um (c j : Nat) : Prop := (c = 55 ∧ (j < 4 ∨ j = 11 ∨ j = 13)) ∨ (56 ≤ c ∧ c ≤ 63) ∨ c = 75 ∨ c = 76
theorem pSC.other {σ τ : dc_HP} {b : Nat} {S : pSg} (h : pSC σ b S) (h0 : τ.1 b 0 = σ.1 b 0) (h1 : ∀ c i, 1 ≤ c → c ≤ 2 → τ.1 (b + c) i = σ.1 (b + c) i) : pSC τ b S := ⟨h0.trans h.1, fun i hi => ⟨(h1 1 i (by decide) (by decide)).trans (h.2 i hi).1, (h1 2 i (by decide) (by decide)).trans (h.2 i hi).2⟩⟩
theorem pIC.other {σ τ : dc_HP} {b : Nat} {o : pIm} (h : pIC σ b o) (h0 : ∀ c j, b ≤ c → c ≤ b + 11 → τ.1 c j = σ.1 c j) : pIC τ b o := by
  cases o with
  | none => exact (h0 b 2 (by omega) (by omega)).trans h
  | some x => exact ⟨(h0 b 2 (by omega) (by omega)).trans h.1, h.2.1.other (fun j _ => h0 _ j (by omega) (by omega)) (fun c j h1 h2 => h0 _ j (by omega) (by omega)), h.2.2.other (h0 _ 0 (by omega) (by omega)) (fun c i h1 h2 => h0 _ i (by omega) (by omega))⟩
theorem pKp.other {σ τ : dc_HP} {z : Nat} {V : pV} {S : pSg} (h : pKp σ z V S) (h0 : ∀ j, z ≤ j → j < z + 73 → τ.1 75 j = σ.1 75 j) (hS : S.2.2 ≤ 8) : pKp τ z V S := by
  obtain ⟨hm, sm, a0, a1, a2, a3, a4, a5, a6, a7, a8, a9⟩ := h
  refine ⟨hm, sm, (h0 _ (by omega) (by omega)).trans a0, (h0 _ (by omega) (by omega)).trans a1, (h0 _ (by omega) (by omega)).trans a2, (h0 _ (by omega) (by omega)).trans a3, (h0 _ (by omega) (by omega)).trans a4, fun k hk ht => ?_, fun p hp v hv => (h0 _ (by omega) (by omega)).trans (a6 p hp v hv), fun p hp => (h0 _ (by omega) (by omega)).trans (a7 p hp), fun p hp => (h0 _ (by omega) (by omega)).trans (a8 p hp), fun i hi => ⟨(h0 _ (by omega) (by omega)).trans (a9 i hi).1, (h0 _ (by omega) (by omega)).trans (a9 i hi).2⟩⟩
  obtain ⟨b1, b2, b3, b4⟩ := a5 k hk ht
  exact ⟨b1, b2, (h0 _ (by omega) (by omega)).trans b3, (h0 _ (by omega) (by omega)).trans b4⟩
theorem pIM.other {σ τ : dc_HP} {k : Nat} {o : pIm} (h : pIM σ k o) (ho : pIok o) (h0 : τ.1 76 k = σ.1 76 k) (h1 : ∀ j, 90 * k ≤ j → j < 90 * k + 73 → τ.1 75 j = σ.1 75 j) : pIM τ k o := by
  cases o with
  | none => exact h0.trans h
  | some x => exact ⟨h0.trans h.1, h.2.other h1 (ho x rfl).2.1⟩
theorem pSM.other {σ τ : dc_HP} {S : pSg} (h : pSM σ S) (h0 : τ.1 55 11 = σ.1 55 11) (h1 : ∀ c i, 61 ≤ c → c ≤ 62 → τ.1 c i = σ.1 c i) : pSM τ S := ⟨h0.trans h.1, fun i hi => ⟨(h1 61 i (by decide) (by decide)).trans (h.2 i hi).1, (h1 62 i (by decide) (by decide)).trans (h.2 i hi).2⟩⟩
theorem pCL.other {σ τ : dc_HP} {G : pG} (h : pCL σ G) (h0 : ∀ c j, Uc c j → τ.1 c j = σ.1 c j) : pCL τ G :=
  ⟨h.1.other (fun j _ => h0 1 j (by unfold Uc; omega)) (fun c j h1 h2 => h0 (1 + c) j (by unfold Uc; omega)),
   h.2.1.other (h0 12 0 (by unfold Uc; omega)) (fun i _ => h0 13 i (by unfold Uc; omega)),
   h.2.2.1.other (h0 7 0 (by unfold Uc; omega)) (fun c i h1 h2 => h0 (7 + c) i (by unfold Uc; omega)),
   h.2.2.2.1.other (fun c j h1 h2 => h0 c j (by unfold Uc; omega)),
   h.2.2.2.2.other (fun c j h1 h2 => h0 c j (by unfold Uc; omega))⟩
theorem pML.other {σ τ : dc_HP} {G : pG} (ho : pGok G) (h : pML σ G) (h0 : ∀ c j, Um c j → τ.1 c j = σ.1 c j) : pML τ G :=
  ⟨h.1.other (fun j hj => h0 55 j (by unfold Um; omega)) (fun c j h1 h2 => h0 c j (by unfold Um; omega)),
   h.2.1.other (h0 55 13 (by unfold Um; omega)) (fun i _ => h0 63 i (by unfold Um; omega)),
   h.2.2.1.other (h0 55 11 (by unfold Um; omega)) (fun c i h1 h2 => h0 c i (by unfold Um; omega)),
   h.2.2.2.1.other ho.2.2.2.1 (h0 76 0 (by unfold Um; omega)) (fun j _ _ => h0 75 j (by unfold Um; omega)),
   h.2.2.2.2.other ho.2.2.2.2 (h0 76 1 (by unfold Um; omega)) (fun j _ _ => h0 75 j (by unfold Um; omega))⟩
theorem pCL.m {σ τ : dc_HP} {G : pG} {W : Nat → Nat → Prop} (h : pCL σ G) (g : pW W σ τ) (hW : ∀ c j, W c j → 55 ≤ c) : pCL τ G := h.other (fun c j u => g.1 c j (fun w => by have := hW c j w; unfold Uc at u; omega))
theorem pML.c {σ τ : dc_HP} {G : pG} {lo hi : Nat} (ho : pGok G) (h : pML σ G) (g : pF lo hi σ τ) (hh : hi ≤ 54) : pML τ G := h.other ho (fun c j u => g.1 c j (by unfold Um at u; omega))
theorem pCL.scr {σ τ : dc_HP} {G : pG} {lo hi : Nat} (h : pCL σ G) (g : pF lo hi σ τ) (h1 : 14 ≤ lo) (h2 : hi ≤ 30) : pCL τ G := h.other (fun c j u => g.1 c j (by unfold Uc at u; omega))
theorem pM.other8 {σ τ : dc_HP} {V : pV} (h : pM σ V) (h0 : ∀ j, j < 4 → τ.1 55 j = σ.1 55 j) (ha : ∀ c j, 56 ≤ c → c ≤ 60 → c ≠ 57 → τ.1 c j = σ.1 c j) (h57 : ∀ k, k < 8 → τ.1 57 k = σ.1 57 k) : pM τ V := by
  obtain ⟨hm, sm, g0, g1, g2, g3, g4, g5, g6, g7⟩ := h
  exact ⟨hm, sm, (h0 0 (by decide)).trans g0, (h0 1 (by decide)).trans g1, (h0 2 (by decide)).trans g2, (h0 3 (by decide)).trans g3, fun j hj ht => ⟨(g4 j hj ht).1, (g4 j hj ht).2.1, (ha 56 j (by decide) (by decide) (by decide)).trans (g4 j hj ht).2.2.1, (h57 j hj).trans (g4 j hj ht).2.2.2⟩, fun p hp v hv => (ha 58 _ (by decide) (by decide) (by decide)).trans (g5 p hp v hv), fun p hp => (ha 59 _ (by decide) (by decide) (by decide)).trans (g6 p hp), fun p hp => (ha 60 _ (by decide) (by decide) (by decide)).trans (g7 p hp)⟩
theorem pML.other8 {σ τ : dc_HP} {G : pG} (ho : pGok G) (h : pML σ G) (h0 : ∀ c j, Um c j → c ≠ 57 → τ.1 c j = σ.1 c j) (h57 : ∀ k, k < 8 → τ.1 57 k = σ.1 57 k) : pML τ G :=
  ⟨h.1.other8 (fun j hj => h0 55 j (by unfold Um; omega) (by decide)) (fun c j h1 h2 h3 => h0 c j (by unfold Um; omega) h3) h57,
   h.2.1.other (h0 55 13 (by unfold Um; omega) (by decide)) (fun i _ => h0 63 i (by unfold Um; omega) (by decide)),
   h.2.2.1.other (h0 55 11 (by unfold Um; omega) (by decide)) (fun c i h1 h2 => h0 c i (by unfold Um; omega) (by omega)),
   h.2.2.2.1.other ho.2.2.2.1 (h0 76 0 (by unfold Um; omega) (by decide)) (fun j _ _ => h0 75 j (by unfold Um; omega) (by decide)),
   h.2.2.2.2.other ho.2.2.2.2 (h0 76 1 (by unfold Um; omega) (by decide)) (fun j _ _ => h0 75 j (by unfold Um; omega) (by decide))⟩
/-! the reference's refusal -/
def Wa (c j : Nat) : Prop := c = 57 ∨ c = 64 ∨ c = 65 ∨ c = 66 ∨ c = 67 ∨ (c = 55 ∧ (j = 1 ∨ j = 2 ∨ j = 3 ∨ 17 ≤ j))
def pSv (σ τ : dc_HP) : Prop := pW Wa σ τ ∧ (∀ k, k < 8 → τ.1 67 k = σ.1 57 k) ∧ τ.1 67 8 = σ.1 55 1 ∧ τ.1 67 9 = σ.1 55 2 ∧ τ.1 67 10 = σ.1 55 3
theorem Wr.a {c j : Nat} (h : Wr c j) : Wa c j := by
  rcases h with h | ⟨h1, h2⟩
  · exact Or.inl h
  · refine Or.inr (Or.inr (Or.inr (Or.inr (Or.inr ⟨h1, ?_⟩))))
    simp only [List.mem_cons, List.not_mem_nil, or_false] at h2
    omega
theorem Wf.a {c j : Nat} (h : Wf c j) : Wa c j := by
  unfold Wf at h
  unfold Wa
  omega
theorem qpar_kind {P : pPd} (hk : pPok P) : ∀ f i L, qpar P f i = .inr L → ∀ a ∈ L, a.1 < 6 ∧ a.2.1 < 8 ∧ (a.1 = 0 → a.2.1 < 6) ∧ (a.1 = 3 → a.2.2 < 8) ∧ a.2.2 ≤ 2000 := by
  intro f
  induction f with
  | zero => intro i L h; cases h; intro a ha; cases ha
  | succ f ih =>
    intro i L h
    rw [qpar] at h
    split at h
    · cases h; intro a ha; cases ha
    · split at h
      · cases h
      · next x l hs =>
        split at h
        · cases h
        · next L' hL =>
          cases h
          intro a ha
          rcases List.mem_cons.mp ha with rfl | ha
          · obtain ⟨k1, k2, k3, k4, k5, -⟩ := qstep_kind hs
            exact ⟨k1, k2, k3, k4, by omega⟩
          · exact ih _ L' hL a ha
theorem qpar_len {P : pPd} : ∀ f i L, qpar P f i = .inr L → i ≤ P.2 → L.length + i ≤ P.2 := by
  intro f
  induction f with
  | zero => intro i L h hi; cases h; simpa using hi
  | succ f ih =>
    intro i L h hi
    rw [qpar] at h
    split at h
    · cases h; simpa using hi
    · split at h
      · cases h
      · next x l hs =>
        split at h
        · cases h
        · next L' hL =>
          cases h
          obtain ⟨l1, l2, -⟩ := qstep_len hs
          by_cases c : i + l ≤ P.2
          · have := ih _ L' hL c
            simp only [List.length_cons]
            omega
          · have : L' = [] := by
              cases f with
              | zero => cases hL; rfl
              | succ f =>
                rw [qpar, if_pos (by omega)] at hL
                cases hL; rfl
            subst this
            simp only [List.length_cons, List.length_nil]
            omega
theorem pm_ref {σ : dc_HP} {P : pPd} {V : pV} (h : pQ σ P) (hk : pPok P) (hM : pM σ V) (ho : pOk V) : ∃ τ, pSv σ τ ∧ (∀ p, qpar P 61 0 = .inl p → fn_X9_refusal σ = some ((-5 : Int32), τ)) ∧ (∀ L, qpar P 61 0 = .inr L → τ.1 55 17 = nI L.length ∧ ((qrun L 0 ((V, 0), 0, none)).2 = none → fn_X9_refusal σ = some ((-6 : Int32), τ) ∧ pMr τ (qrun L 0 ((V, 0), 0, none)).1.1 ∧ τ.1 55 21 = (-6 : Int32) ∧ τ.1 55 22 = (-6 : Int32)) ∧ (∀ w, (qrun L 0 ((V, 0), 0, none)).2 = some w → fn_X9_refusal σ = some ((-3 : Int32), τ) ∧ τ.1 55 21 = nI (qrun L 0 ((V, 0), 0, none)).1.2 ∧ τ.1 55 22 = nI w)) := by
  obtain ⟨α, a1, a2, a3, a4, a5, a6⟩ := pm_keep σ
  have hQ : pQ α P := h.other (a2.1 55 13 (by unfold W67; decide)) (fun i _ => a2.1 63 i (by unfold W67; decide))
  have hM2 : pM α V := hM.other (fun j _ => a2.1 55 j (by unfold W67; decide)) (fun c j h1 h2 => a2.1 c j (by unfold W67; omega))
  obtain ⟨β, b1, b2, b3⟩ := pm_fault hQ hk
  have wa : pW Wa σ α := a2.mono (fun c j z => by unfold W67 at z; unfold Wa; omega)
  have wb : pW Wa σ β := wa.tr (b1.mono (fun _ _ z => z.a))
  have s67 : ∀ {τ : dc_HP}, pW Wa σ τ → (∀ j, τ.1 67 j = α.1 67 j) → pSv σ τ := fun w e => ⟨w, fun k hk => (e k).trans (a3 k hk), (e 8).trans a4, (e 9).trans a5, (e 10).trans a6⟩
  have e67 : ∀ j, β.1 67 j = α.1 67 j := fun j => b1.1 67 j (by unfold Wf; omega)
  have hM3 : pM β V := hM2.other (fun j _ => b1.1 55 j (by unfold Wf; omega)) (fun c j h1 h2 => b1.1 c j (by unfold Wf; omega))
  unfold fn_X9_refusal
  rw [a1, Option.bind_some]
  cases hq : qpar P 61 0 with
  | inl p =>
    obtain ⟨p60, e⟩ := b3 p hq
    rw [e, Option.bind_some]
    refine ⟨β, s67 wb e67, fun p' _ => ?_, fun L q => (by cases q)⟩
    exact if_neg (nI_pos (by omega))
  | inr L =>
    obtain ⟨e, hH⟩ := b2 L hq
    have hL := qpar_len 61 0 L hq (Nat.zero_le _)
    have h60 := hk.1
    rw [e, Option.bind_some]
    dsimp only
    rw [if_pos (by decide)]
    unfold fn_X9_goEvenings
    simp only [dc_let]
    generalize hγ : dc_wI (dc_wI (dc_wI (dc_wI (dc_wI (dc_wI β 55 18 (nI 0)) 55 19 (nI 0)) 55 21 (-6 : Int32)) 55 22 (-6 : Int32)) 55 23 (-6 : Int32)) 55 24 (-6 : Int32) = γ
    have w1 : pW Wr β γ := by
      rw [← hγ]
      exact (((((pW.rf.w (Or.inr ⟨rfl, by decide⟩)).w (Or.inr ⟨rfl, by decide⟩)).w (Or.inr ⟨rfl, by decide⟩)).w (Or.inr ⟨rfl, by decide⟩)).w (Or.inr ⟨rfl, by decide⟩)).w (Or.inr ⟨rfl, by decide⟩)
    have hr : pMr γ ((V, 0), 0, none) := by
      rw [← hγ]
      refine ⟨⟨hM3.other (fun j hj => ?_) (fun c j h1 h2 => ?_), by simp [dc_wI]⟩, by simp [dc_wI], by simp [dc_wI, qf1], by simp [dc_wI, qf2]⟩
      · have n1 : j ≠ 18 := by omega
        have n2 : j ≠ 19 := by omega
        have n3 : j ≠ 21 := by omega
        have n4 : j ≠ 22 := by omega
        have n5 : j ≠ 23 := by omega
        have n6 : j ≠ 24 := by omega
        simp [dc_wI, n1, n2, n3, n4, n5, n6]
      · have n1 : c ≠ 55 := by omega
        simp [dc_wI, n1]
    obtain ⟨τ, r1, r2, r3, r4⟩ := pl_run (A := L) (by omega) (qpar_kind hk 61 0 L hq) L 0 200 γ ((V, 0), 0, none) rfl (Nat.zero_le _) (hH.wr w1) hr ho (fun x q => by cases q) (by rw [← hγ]; simp [dc_wI]) (by rw [← hγ]; simp [dc_wI]) (by omega)
    have wr := w1.tr r2
    have er67 : ∀ j, τ.1 67 j = α.1 67 j := fun j => (wr.1 67 j (fun z => by have := z.n; omega)).trans (e67 j)
    rw [r1, Option.bind_some, Option.bind_some]
    refine ⟨τ, s67 (wb.tr (wr.mono (fun _ _ z => z.a))) er67, fun p q => (by cases q), fun L' q => ?_⟩
    cases q
    refine ⟨(hH.wr wr).1, fun q => ?_, fun w q => ?_⟩
    · obtain ⟨z1, z2, z3⟩ := r3 q
      rw [z2, if_pos (by decide)]
      exact ⟨rfl, z1, rfl, z3⟩
    · obtain ⟨z1, z2⟩ := r4 w q
      have hle : ∀ (L : List pA) k r, (qrun L k r).1.2 ≤ k + L.length := by
        intro L
        induction L with
        | nil => intro k r; exact Nat.le_refl _
        | cons a L ih =>
          intro k r
          rw [qrun]
          split
          · have := ih (k + 1) (qone k a r)
            simp only [List.length_cons]
            omega
          · simp only [List.length_cons]
            omega
      have := hle L 0 ((V, 0), 0, none)
      rw [z1, if_neg (nI_pos (by omega))]
      exact ⟨rfl, rfl, z2⟩
/-- back: the reference's state is as it was -/
theorem pm_backRL {σ τ : dc_HP} {G : pG} (ho : pGok G) (h : pML σ G) (hs : pSv σ τ) (x : Int32) : ∃ υ, fn_X9_back τ x = some (x, υ) ∧ pML υ G ∧ pW Wa σ υ ∧ (∀ j, j ≠ 1 → j ≠ 2 → j ≠ 3 → υ.1 55 j = τ.1 55 j) := by
  obtain ⟨w, s0, s1, s2, s3⟩ := hs
  obtain ⟨υ, b1, b2, b3, b4, b5, b6⟩ := pm_back τ x
  have wa : pW Wa σ υ := w.tr (b2.mono (fun c j z => by unfold Wb at z; unfold Wa; omega))
  refine ⟨υ, b1, h.other8 ho (fun c j u hc => ?_) (fun k hk => (b3 k hk).trans (s0 k hk)), wa, fun j j1 j2 j3 => b2.1 55 j (by unfold Wb; omega)⟩
  by_cases e1 : c = 55 ∧ j = 1
  · rw [e1.1, e1.2]; exact b4.trans s1
  by_cases e2 : c = 55 ∧ j = 2
  · rw [e2.1, e2.2]; exact b5.trans s2
  by_cases e3 : c = 55 ∧ j = 3
  · rw [e3.1, e3.2]; exact b6.trans s3
  exact wa.1 c j (fun z => by unfold Wa at z; unfold Um at u; omega)
