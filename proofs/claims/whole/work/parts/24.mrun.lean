/-! the reference runs its acts -/
theorem qwhy_le (V : pV) (k a v : Nat) : qwhy V k a v ≤ 5 := by
  unfold qwhy
  repeat' split
  all_goals omega
def qowe (V : pV) : Nat → Bool := fun k => pth V k && decide (0 < pde V k)
theorem pl_owing {σ : dc_HP} {V : pV} (h : pM σ V) (ho : pOk V) : ∀ d i n, i + d = 8 → d < n → fn_X9_owing_L4 σ n (nI (pm (fun j => decide (j < i) && qowe V j) 8)) (nI i) = some (nI (pm (qowe V) 8)) := by
  intro d
  induction d with
  | zero =>
    intro i n hi hn
    obtain ⟨m, rfl⟩ : ∃ m, n = m + 1 := ⟨n - 1, by omega⟩
    obtain rfl : i = 8 := by omega
    unfold fn_X9_owing_L4
    rw [if_pos (nI_le (Nat.le_refl 8) (by decide)), pm_all]
  | succ d ih =>
    intro i n hi hn
    obtain ⟨m, rfl⟩ : ∃ m, n = m + 1 := ⟨n - 1, by omega⟩
    unfold fn_X9_owing_L4
    have g := ih (i + 1) m (by omega) (by omega)
    have hd := ho.2.2.1 i (by omega)
    obtain ⟨hm, sm, h0, h1, h2, h3, h4, -⟩ := id h
    rw [if_neg (nI_ge (by omega) (by decide)), pm_is h (by omega), Option.bind_some, px_or, Nat.or_zero, nI_add]
    cases ht : pth V i with
    | false =>
      have e : qowe V i = false := by unfold qowe; rw [ht]; rfl
      rw [if_pos (by simp [px_eq0]), pm_acc0 e]
      exact g
    | true =>
      rw [if_neg (by simp [px_eq0]), px_gg (by omega) (by decide), nI_clamp (by omega), (h4 i (by omega) ht).2.2.2]
      by_cases c : pde V i = 0
      · have e : qowe V i = false := by unfold qowe; rw [ht]; simp [c]
        rw [if_pos ((px_le0 (by omega)).mpr c), pm_acc0 e]
        exact g
      · have c2 : 0 < pde V i := by omega
        have e : qowe V i = true := by unfold qowe; rw [ht]; simp [c2]
        rw [if_neg (fun q => c ((px_le0 (by omega)).mp q)), px_set _ (by decide) (by omega), pm_acc1 e]
        exact g
theorem pm_owing {σ : dc_HP} {V : pV} (h : pM σ V) (ho : pOk V) : fn_X9_owing σ = some (nI (pm (qowe V) 8)) := by
  unfold fn_X9_owing
  have e := pl_owing h ho 8 0 200 rfl (by decide)
  rw [pm_none] at e
  rw [e]
  rfl
theorem qowe_mask (V W : pV) (h : pth W = pth V) : nI (pm (qowe V) 8) &&& (nI (pm (qowe W) 8) ^^^ (-1 : Int32)) = nI (pm (qnew V W) 8) := by
  rw [px_pdiff _ _ (by decide)]
  congr 1
  apply pm_congr
  intro k _
  unfold qowe qnew
  rw [h]
  cases pth V k with
  | false => rfl
  | true =>
    by_cases c : pde W k = 0
    · simp [c]
    · have : 0 < pde W k := by omega
      simp [c, this]
def pMr (σ : dc_HP) (r : pR) : Prop := pMS σ r.1 ∧ σ.1 55 19 = nI r.2.1 ∧ σ.1 55 23 = qf1 r.2.2 ∧ σ.1 55 24 = qf2 r.2.2
def Wg (c j : Nat) : Prop := c = 57 ∨ (c = 55 ∧ j ∈ [1, 2, 3, 18, 19, 23, 24])
theorem pFm.g {σ τ : dc_HP} (h : pFm [1, 2, 3, 18, 19] σ τ) : pW Wg σ τ := ⟨fun c j q => h.1 c j (fun z => q (z.imp id (fun y => ⟨y.1, by
  have := y.2
  simp only [List.mem_cons, List.not_mem_nil, or_false] at this ⊢
  omega⟩))), h.2⟩
theorem pMS.other {σ τ : dc_HP} {s : pT} (h : pMS σ s) (h0 : ∀ j, j < 4 ∨ j = 18 → τ.1 55 j = σ.1 55 j) (ha : ∀ c j, 56 ≤ c → c ≤ 60 → τ.1 c j = σ.1 c j) : pMS τ s := ⟨h.1.other (fun j hj => h0 j (Or.inl hj)) ha, (h0 18 (Or.inr rfl)).trans h.2⟩
theorem pm_one' {σ : dc_HP} {A : List pA} {r : pR} {k : Nat} {a : pA} (h : pMr σ r) (ho : pOk r.1.1) (hH : pH σ A) (ha : A[k]? = some a) (hl : A.length ≤ 60) (hk : a.1 < 6 ∧ a.2.1 < 8 ∧ (a.1 = 0 → a.2.1 < 6) ∧ (a.1 = 3 → a.2.2 < 8) ∧ a.2.2 ≤ 2000) (hfr : ∀ x, r.2.2 = some x → x.1 < 2 ^ 31) (hw : qwhy r.1.1 a.1 a.2.1 a.2.2 = 0) : ∃ τ, fn_X9_goOne σ (nI k) = some τ ∧ pMr τ (qone k a r) ∧ pW Wg σ τ := by
  obtain ⟨m1, m2, m3, m4⟩ := h
  have hk60 : k < 60 := by
    have := (List.getElem?_eq_some_iff.mp ha).1
    omega
  obtain ⟨a1, a2, a3⟩ := hH.2 k a ha
  obtain ⟨τ, e1, e2, e3, e4⟩ := pm_hap m1 ho hk.1 hk.2.1 hk.2.2.1 hk.2.2.2.1 hk.2.2.2.2 m2 hw
  have ho' : pOk (qhap a.1 a.2.1 a.2.2 r.1).1 := qhap_ok ho hw hk.1 hk.2.2.2.1
  unfold fn_X9_goOne
  rw [pm_owing m1.1 ho, Option.bind_some, px_gg hk60 (by decide), px_gg hk60 (by decide), px_gg hk60 (by decide), nI_clamp (by omega), a1, a2, a3, e1, Option.bind_some, pm_owing e2.1 ho', Option.bind_some, qowe_mask _ _ qhap_th]
  have hl' := pm_lt31 (qnew r.1.1 (qhap a.1 a.2.1 a.2.2 r.1).1) (Nat.le_refl 8)
  have t23 : τ.1 55 23 = qf1 r.2.2 := (e3.1 55 23 (by decide)).trans m3
  have t24 : τ.1 55 24 = qf2 r.2.2 := (e3.1 55 24 (by decide)).trans m4
  have t19 : τ.1 55 19 = nI (r.2.1 + if a.1 = 0 then 1 else 0) := by
    rw [e4]
    split <;> rfl
  by_cases c : pm (qnew r.1.1 (qhap a.1 a.2.1 a.2.2 r.1).1) 8 = 0
  · rw [if_pos ((px_eq0 hl').mpr c)]
    have e : qfr k r.1.1 (qhap a.1 a.2.1 a.2.2 r.1).1 r.2.2 = r.2.2 := by
      unfold qfr
      cases r.2.2 with
      | none => exact if_pos c
      | some x => rfl
    refine ⟨τ, rfl, ⟨e2, t19, ?_, ?_⟩, e3.g⟩
    · show _ = qf1 (qfr k r.1.1 (qhap a.1 a.2.1 a.2.2 r.1).1 r.2.2)
      rw [e]; exact t23
    · show _ = qf2 (qfr k r.1.1 (qhap a.1 a.2.1 a.2.2 r.1).1 r.2.2)
      rw [e]; exact t24
  · rw [if_neg (fun q => c ((px_eq0 hl').mp q)), t23]
    cases hr : r.2.2 with
    | some x =>
      rw [hr] at t23 t24
      rw [if_pos (show (0 : Int32) ≤ qf1 (some x) from nI_pos' (hfr x hr))]
      have e : qfr k r.1.1 (qhap a.1 a.2.1 a.2.2 r.1).1 r.2.2 = some x := by unfold qfr; rw [hr]
      refine ⟨τ, rfl, ⟨e2, t19, ?_, ?_⟩, e3.g⟩
      · show _ = qf1 (qfr k r.1.1 (qhap a.1 a.2.1 a.2.2 r.1).1 r.2.2)
        rw [e]; exact t23
      · show _ = qf2 (qfr k r.1.1 (qhap a.1 a.2.1 a.2.2 r.1).1 r.2.2)
        rw [e]; exact t24
    | none =>
      rw [if_neg (show ¬ (0 : Int32) ≤ qf1 none by decide), px_fst c]
      simp only [dc_let, Option.bind_some]
      have e : qfr k r.1.1 (qhap a.1 a.2.1 a.2.2 r.1).1 r.2.2 = some (k, qfst (qnew r.1.1 (qhap a.1 a.2.1 a.2.2 r.1).1)) := by unfold qfr; rw [hr]; exact if_neg c
      refine ⟨_, rfl, ⟨e2.other (fun j hj => ?_) (fun c j h1 h2 => ?_), ?_, ?_, ?_⟩, (e3.g.w (Or.inr ⟨rfl, by decide⟩)).w (Or.inr ⟨rfl, by decide⟩)⟩
      · have n1 : j ≠ 23 := by omega
        have n2 : j ≠ 24 := by omega
        simp [dc_wI, n1, n2]
      · have n1 : c ≠ 55 := by omega
        simp [dc_wI, n1]
      · show _ = nI (r.2.1 + if a.1 = 0 then 1 else 0)
        have := t19
        simpa [dc_wI] using this
      · show _ = qf1 (qfr k r.1.1 (qhap a.1 a.2.1 a.2.2 r.1).1 r.2.2)
        rw [e]; simp [dc_wI, qf1]
      · show _ = qf2 (qfr k r.1.1 (qhap a.1 a.2.1 a.2.2 r.1).1 r.2.2)
        rw [e]; simp [dc_wI, qf2]
def Wr (c j : Nat) : Prop := c = 57 ∨ (c = 55 ∧ j ∈ [1, 2, 3, 18, 19, 21, 22, 23, 24])
theorem Wg.r {c j : Nat} (h : Wg c j) : Wr c j := h.imp id (fun y => ⟨y.1, by
  have := y.2
  simp only [List.mem_cons, List.not_mem_nil, or_false] at this ⊢
  omega⟩)
theorem Wr.n {c j : Nat} (h : Wr c j) : c = 57 ∨ (c = 55 ∧ j ≠ 0 ∧ j ≠ 13 ∧ j ≠ 17) := h.imp id (fun y => ⟨y.1, by
  have := y.2
  simp only [List.mem_cons, List.not_mem_nil, or_false] at this
  omega⟩)
theorem pH.wr {σ τ : dc_HP} {A : List pA} (h : pH σ A) (g : pW Wr σ τ) : pH τ A := by
  have n : ∀ c j, 64 ≤ c → τ.1 c j = σ.1 c j := fun c j hc => g.1 c j (fun z => by have := z.n; omega)
  refine ⟨(g.1 55 17 (fun z => by have := z.n; omega)).trans h.1, fun k a ha => ?_⟩
  obtain ⟨a1, a2, a3⟩ := h.2 k a ha
  exact ⟨(n 64 k (by omega)).trans a1, (n 65 k (by omega)).trans a2, (n 66 k (by omega)).trans a3⟩
theorem pl_run {A : List pA} (hl : A.length ≤ 60) (hk : ∀ a ∈ A, a.1 < 6 ∧ a.2.1 < 8 ∧ (a.1 = 0 → a.2.1 < 6) ∧ (a.1 = 3 → a.2.2 < 8) ∧ a.2.2 ≤ 2000) : ∀ (L : List pA) k m σ r, A.drop k = L → k ≤ A.length → pH σ A → pMr σ r → pOk r.1.1 → (∀ x, r.2.2 = some x → x.1 < 2 ^ 31) → σ.1 55 21 = (-6 : Int32) → σ.1 55 22 = (-6 : Int32) → L.length + 1 < m → ∃ τ, fn_X9_goEvenings_L36 m (nI k) σ = some τ ∧ pW Wr σ τ ∧ ((qrun L k r).2 = none → pMr τ (qrun L k r).1.1 ∧ τ.1 55 21 = (-6 : Int32) ∧ τ.1 55 22 = (-6 : Int32)) ∧ (∀ w, (qrun L k r).2 = some w → τ.1 55 21 = nI (qrun L k r).1.2 ∧ τ.1 55 22 = nI w) := by
  intro L
  induction L with
  | nil =>
    intro k m σ r hd hkl hH hr ho hfr h21 h22 hm
    obtain ⟨m, rfl⟩ : ∃ n, m = n + 1 := ⟨m - 1, by omega⟩
    have : A.length ≤ k := by simpa using hd
    unfold fn_X9_goEvenings_L36
    rw [hH.1, if_pos (nI_le this (by omega))]
    exact ⟨σ, rfl, pW.rf, fun _ => ⟨hr, h21, h22⟩, fun w q => (by cases q)⟩
  | cons a L ih =>
    intro k m σ r hd hkl hH hr ho hfr h21 h22 hm
    obtain ⟨m, rfl⟩ : ∃ n, m = n + 1 := ⟨m - 1, by omega⟩
    have hlt : k < A.length := by
      have := congrArg List.length hd
      simp at this
      omega
    have hak : A[k]? = some a := by
      have := congrArg (fun l => l[0]?) hd
      simpa using this
    have hd' : A.drop (k + 1) = L := by
      have := congrArg (fun l => l.drop 1) hd
      simpa [List.drop_drop, Nat.add_comm] using this
    have hka := hk a (List.mem_of_getElem? hak)
    obtain ⟨a1, a2, a3⟩ := hH.2 k a hak
    have hwl := qwhy_le r.1.1 a.1 a.2.1 a.2.2
    unfold fn_X9_goEvenings_L36
    rw [hH.1, if_neg (nI_ge hlt (by omega)), h21, if_neg (by decide), px_gg (by omega) (by decide), px_gg (by omega) (by decide), px_gg (by omega) (by decide), nI_clamp (by omega), a1, a2, a3, pm_why hr.1.1 ho hka.1 hka.2.1 hka.2.2.1 hka.2.2.2.1 hka.2.2.2.2, Option.bind_some, nI_add]
    rw [qrun]
    by_cases hw : qwhy r.1.1 a.1 a.2.1 a.2.2 = 0
    · rw [hw, if_pos (show nI 0 ≤ 0 by decide), if_pos (show nI 0 ≤ 0 by decide), if_pos rfl]
      simp only [Option.bind_some, dc_let]
      rw [if_pos nI_0]
      have w1 : pW Wr σ (dc_wI (dc_wI σ 55 21 (-6 : Int32)) 55 22 (-6 : Int32)) := (pW.rf.w (Or.inr ⟨rfl, by decide⟩)).w (Or.inr ⟨rfl, by decide⟩)
      have e55 : ∀ j, j ≠ 21 → j ≠ 22 → (dc_wI (dc_wI σ 55 21 (-6 : Int32)) 55 22 (-6 : Int32)).1 55 j = σ.1 55 j := fun j n1 n2 => by simp [dc_wI, n1, n2]
      have hr1 : pMr (dc_wI (dc_wI σ 55 21 (-6 : Int32)) 55 22 (-6 : Int32)) r := by
        refine ⟨hr.1.other (fun j hj => e55 j (by omega) (by omega)) (fun c j h1 h2 => ?_), (e55 19 (by decide) (by decide)).trans hr.2.1, (e55 23 (by decide) (by decide)).trans hr.2.2.1, (e55 24 (by decide) (by decide)).trans hr.2.2.2⟩
        have n1 : c ≠ 55 := by omega
        simp [dc_wI, n1]
      obtain ⟨τ, e1, e2, e3⟩ := pm_one' hr1 ho (hH.wr w1) hak hl hka hfr hw
      rw [e1, Option.bind_some]
      have hfr2 : ∀ x, (qone k a r).2.2 = some x → x.1 < 2 ^ 31 := by
        intro x hx
        have hx' : qfr k r.1.1 (qhap a.1 a.2.1 a.2.2 r.1).1 r.2.2 = some x := hx
        unfold qfr at hx'
        cases ho2 : r.2.2 with
        | some y => rw [ho2] at hx'; cases hx'; exact hfr _ ho2
        | none =>
          rw [ho2] at hx'
          dsimp only at hx'
          split at hx'
          · cases hx'
          · cases hx'; dsimp only; omega
      have w2 : pW Wr (dc_wI (dc_wI σ 55 21 (-6 : Int32)) 55 22 (-6 : Int32)) τ := e3.mono (fun _ _ z => z.r)
      have g21 : τ.1 55 21 = (-6 : Int32) := (e3.1 55 21 (by unfold Wg; decide)).trans (by simp [dc_wI])
      have g22 : τ.1 55 22 = (-6 : Int32) := (e3.1 55 22 (by unfold Wg; decide)).trans (by simp [dc_wI])
      obtain ⟨υ, f1, f2, f3, f4⟩ := ih (k + 1) m τ (qone k a r) hd' (by omega) ((hH.wr w1).wr w2) e2 (qhap_ok ho hw hka.1 hka.2.2.2.1) hfr2 g21 g22 (by simp at hm; omega)
      exact ⟨υ, f1, (w1.tr w2).tr f2, f3, f4⟩
    · have n0 : ¬ nI (qwhy r.1.1 a.1 a.2.1 a.2.2) ≤ 0 := fun q => hw ((px_le0 (by omega)).mp q)
      rw [if_neg n0, if_neg n0, if_neg hw]
      simp only [Option.bind_some, dc_let]
      rw [if_neg (fun q => hw ((px_eq0 (by omega)).mp q))]
      have w1 : pW Wr σ (dc_wI (dc_wI σ 55 21 (nI k)) 55 22 (nI (qwhy r.1.1 a.1 a.2.1 a.2.2))) := (pW.rf.w (Or.inr ⟨rfl, by decide⟩)).w (Or.inr ⟨rfl, by decide⟩)
      obtain ⟨m, rfl⟩ : ∃ n, m = n + 1 := ⟨m - 1, by simp at hm; omega⟩
      refine ⟨dc_wI (dc_wI σ 55 21 (nI k)) 55 22 (nI (qwhy r.1.1 a.1 a.2.1 a.2.2)), ?_, w1, fun q => (by cases q), fun w q => ?_⟩
      · unfold fn_X9_goEvenings_L36
        have g21 : (dc_wI (dc_wI σ 55 21 (nI k)) 55 22 (nI (qwhy r.1.1 a.1 a.2.1 a.2.2))).1 55 21 = nI k := by simp [dc_wI]
        rw [g21, if_pos (nI_pos' (show k < 2 ^ 31 by omega))]
        split <;> rfl
      · cases q
        exact ⟨by simp [dc_wI], by simp [dc_wI]⟩
def W67 (c _ : Nat) : Prop := c = 67
theorem pl_keep : ∀ d i n σ, i + d = 8 → d < n → ∃ τ, fn_X9_keepNow_L2 n (nI i) σ = some τ ∧ pW W67 σ τ ∧ (∀ k, i ≤ k → k < 8 → τ.1 67 k = σ.1 57 k) ∧ ∀ k, k < i → τ.1 67 k = σ.1 67 k := by
  intro d
  induction d with
  | zero =>
    intro i n σ hi hn
    obtain ⟨m, rfl⟩ : ∃ m, n = m + 1 := ⟨n - 1, by omega⟩
    unfold fn_X9_keepNow_L2
    rw [if_pos (nI_le (by omega) (by omega))]
    exact ⟨σ, rfl, pW.rf, fun k h1 h2 => by omega, fun _ _ => rfl⟩
  | succ d ih =>
    intro i n σ hi hn
    obtain ⟨m, rfl⟩ : ∃ m, n = m + 1 := ⟨n - 1, by omega⟩
    unfold fn_X9_keepNow_L2
    rw [if_neg (nI_ge (by omega) (by decide)), px_gg (by omega) (by decide), px_gg (by omega) (by decide), nI_clamp (by omega), nI_add]
    simp only [dc_let]
    obtain ⟨τ, e1, e2, e3, e4⟩ := ih (i + 1) m (dc_wI σ 67 i (σ.1 57 i)) (by omega) (by omega)
    refine ⟨τ, e1, (pW.rf.w (show W67 67 i from rfl)).tr e2, fun k h1 h2 => ?_, fun k hk => ?_⟩
    · by_cases c : k = i
      · subst c
        rw [e4 k (by omega)]
        simp [dc_wI]
      · rw [e3 k (by omega) h2]
        simp [dc_wI]
    · rw [e4 k (by omega)]
      have : k ≠ i := by omega
      simp [dc_wI, this]
theorem pm_keep (σ : dc_HP) : ∃ τ, fn_X9_keepNow σ = some τ ∧ pW W67 σ τ ∧ (∀ k, k < 8 → τ.1 67 k = σ.1 57 k) ∧ τ.1 67 8 = σ.1 55 1 ∧ τ.1 67 9 = σ.1 55 2 ∧ τ.1 67 10 = σ.1 55 3 := by
  obtain ⟨τ, e1, e2, e3, -⟩ := pl_keep 8 0 200 σ rfl (by decide)
  unfold fn_X9_keepNow
  rw [e1, Option.bind_some, show (nI 8).toNatClampNeg = 8 by decide, show (nI 9).toNatClampNeg = 9 by decide, show (nI 10).toNatClampNeg = 10 by decide]
  simp only [dc_let]
  have n55 : ∀ j, τ.1 55 j = σ.1 55 j := fun j => e2.1 55 j (by unfold W67; decide)
  refine ⟨_, rfl, ((e2.w rfl).w rfl).w rfl, fun k hk => ?_, ?_, ?_, ?_⟩
  · have c8 : k ≠ 8 := by omega
    have c9 : k ≠ 9 := by omega
    have c10 : k ≠ 10 := by omega
    have := e3 k (Nat.zero_le k) hk
    simpa [dc_wI, c8, c9, c10] using this
  · have := n55 1
    simpa [dc_wI] using this
  · have := n55 2
    simpa [dc_wI] using this
  · have := n55 3
    simpa [dc_wI] using this
def W57 (c _ : Nat) : Prop := c = 57
theorem pl_back (x : Int32) : ∀ d i n σ, i + d = 8 → d < n → ∃ τ, fn_X9_back_L2 x n (nI i) σ = some τ ∧ pW W57 σ τ ∧ (∀ k, i ≤ k → k < 8 → τ.1 57 k = σ.1 67 k) ∧ ∀ k, k < i → τ.1 57 k = σ.1 57 k := by
  intro d
  induction d with
  | zero =>
    intro i n σ hi hn
    obtain ⟨m, rfl⟩ : ∃ m, n = m + 1 := ⟨n - 1, by omega⟩
    unfold fn_X9_back_L2
    rw [if_pos (nI_le (by omega) (by omega))]
    exact ⟨σ, rfl, pW.rf, fun k h1 h2 => by omega, fun _ _ => rfl⟩
  | succ d ih =>
    intro i n σ hi hn
    obtain ⟨m, rfl⟩ : ∃ m, n = m + 1 := ⟨n - 1, by omega⟩
    unfold fn_X9_back_L2
    rw [if_neg (nI_ge (by omega) (by decide)), px_gg (by omega) (by decide), px_gg (by omega) (by decide), nI_clamp (by omega), nI_add]
    simp only [dc_let]
    obtain ⟨τ, e1, e2, e3, e4⟩ := ih (i + 1) m (dc_wI σ 57 i (σ.1 67 i)) (by omega) (by omega)
    refine ⟨τ, e1, (pW.rf.w (show W57 57 i from rfl)).tr e2, fun k h1 h2 => ?_, fun k hk => ?_⟩
    · by_cases c : k = i
      · subst c
        rw [e4 k (by omega)]
        simp [dc_wI]
      · rw [e3 k (by omega) h2]
        simp [dc_wI]
    · rw [e4 k (by omega)]
      have : k ≠ i := by omega
      simp [dc_wI, this]
def Wb (c j : Nat) : Prop := c = 57 ∨ (c = 55 ∧ (j = 1 ∨ j = 2 ∨ j = 3))
theorem pm_back (σ : dc_HP) (x : Int32) : ∃ τ, fn_X9_back σ x = some (x, τ) ∧ pW Wb σ τ ∧ (∀ k, k < 8 → τ.1 57 k = σ.1 67 k) ∧ τ.1 55 1 = σ.1 67 8 ∧ τ.1 55 2 = σ.1 67 9 ∧ τ.1 55 3 = σ.1 67 10 := by
  obtain ⟨τ, e1, e2, e3, -⟩ := pl_back x 8 0 200 σ rfl (by decide)
  unfold fn_X9_back
  rw [e1, Option.bind_some, show (nI 8).toNatClampNeg = 8 by decide, show (nI 9).toNatClampNeg = 9 by decide, show (nI 10).toNatClampNeg = 10 by decide]
  simp only [dc_let]
  have n67 : ∀ j, τ.1 67 j = σ.1 67 j := fun j => e2.1 67 j (by unfold W57; decide)
  have w0 : pW Wb σ τ := e2.mono (fun _ _ z => Or.inl z)
  refine ⟨_, rfl, ((w0.w (Or.inr ⟨rfl, Or.inl rfl⟩)).w (Or.inr ⟨rfl, Or.inr (Or.inl rfl)⟩)).w (Or.inr ⟨rfl, Or.inr (Or.inr rfl)⟩), fun k hk => ?_, ?_, ?_, ?_⟩
  · have := e3 k (Nat.zero_le k) hk
    simpa [dc_wI] using this
  · have := n67 8
    simpa [dc_wI] using this
  · have := n67 9
    simpa [dc_wI] using this
  · have := n67 10
    simpa [dc_wI] using this
