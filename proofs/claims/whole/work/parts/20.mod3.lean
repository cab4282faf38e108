theorem pl_msv {p v : Nat} (hp : p < 6) (hv : v < 4) : ∀ d i n σ s, pMS σ s → pOk s.1 → i + d = pnd s.1 p v → d ≤ pc (qrdy s.1 v) 8 → d < n → ∃ τ, fn_X9_singPiece_L19 (nI p) (nI v) n (nI i) σ = some τ ∧ pMS τ (qsv v (qw s.1 p) d s) ∧ pFm [1, 2, 3, 18] σ τ ∧ ∀ v', v' ≠ v → pc (qrdy (qsv v (qw s.1 p) d s).1 v') 8 = pc (qrdy s.1 v') 8 := by
  intro d
  induction d with
  | zero =>
    intro i n σ s h ho hi hc hn
    obtain ⟨m, rfl⟩ : ∃ m, n = m + 1 := ⟨n - 1, by omega⟩
    have hd := ho.2.2.2.1 p hp v hv
    obtain ⟨hm, sm, h0, h1, h2, h3, h4, h5, -⟩ := id h.1
    unfold fn_X9_singPiece_L19
    rw [pk_mul, nI_add, px_gg (by omega) (by decide), nI_clamp (by omega), h5 p hp v hv, if_pos (nI_le (by omega) (by omega))]
    exact ⟨σ, rfl, h, pFm.rf, fun _ _ => rfl⟩
  | succ d ih =>
    intro i n σ s h ho hi hc hn
    obtain ⟨m, rfl⟩ : ∃ m, n = m + 1 := ⟨n - 1, by omega⟩
    have hd := ho.2.2.2.1 p hp v hv
    obtain ⟨hm, sm, h0, h1, h2, h3, h4, h5, h6, h7⟩ := id h.1
    unfold fn_X9_singPiece_L19
    rw [pk_mul, nI_add, px_gg (by omega) (by decide), nI_clamp (by omega), h5 p hp v hv, if_neg (nI_ge (by omega) (by omega)), px_gg (by omega) (by decide), px_gg (by omega) (by decide), nI_clamp (by omega), h6 p hp, h7 p hp, pk_mul, nI_add]
    have hex : 0 < pc (qrdy s.1 v) 8 := by omega
    obtain ⟨τ, e1, e2, e3⟩ := pm_one h ho hv (qw_le ho hp) hex
    obtain ⟨c1, c2⟩ := qsing1_cnt (w := qw s.1 p) hex
    have hk : pKeep s (qsing1 v (qw s.1 p) s) := qsing1_keep
    rw [show fn_X9_singOne σ (nI v) (nI (pba s.1 p * ppy s.1 p)) = some τ from e1, Option.bind_some]
    obtain ⟨υ, g1, g2, g3, g4⟩ := ih (i + 1) m τ (qsing1 v (qw s.1 p) s) e2 (qsing1_ok ho) (by rw [hk.2.2.2.2.1]; omega) (by omega) (by omega)
    have e4 : qw (qsing1 v (qw s.1 p) s).1 p = qw s.1 p := hk.wq p
    rw [e4] at g2 g4
    exact ⟨υ, g1, g2, e3.tr g3, fun v' hv' => (g4 v' hv').trans (c2 v' hv')⟩
theorem pl_msing {p : Nat} (hp : p < 6) : ∀ d v n σ s, pMS σ s → pOk s.1 → v + d = 4 → (∀ v', v ≤ v' → v' < 4 → pnd s.1 p v' ≤ pc (qrdy s.1 v') 8) → d < n → ∃ τ, fn_X9_singPiece_L12 (nI p) n (nI v) σ = some τ ∧ pMS τ (qspl p d v s) ∧ pFm [1, 2, 3, 18] σ τ := by
  intro d
  induction d with
  | zero =>
    intro v n σ s h ho hi hc hn
    obtain ⟨m, rfl⟩ : ∃ m, n = m + 1 := ⟨n - 1, by omega⟩
    unfold fn_X9_singPiece_L12
    rw [if_pos (nI_le (by omega) (by omega))]
    exact ⟨σ, rfl, h, pFm.rf⟩
  | succ d ih =>
    intro v n σ s h ho hi hc hn
    obtain ⟨m, rfl⟩ : ∃ m, n = m + 1 := ⟨n - 1, by omega⟩
    unfold fn_X9_singPiece_L12
    have hd := ho.2.2.2.1 p hp v (by omega)
    obtain ⟨τ, e1, e2, e3, e4⟩ := pl_msv hp (show v < 4 by omega) (pnd s.1 p v) 0 200 σ s h ho (by omega) (hc v (Nat.le_refl v) (by omega)) (by omega)
    have hk : pKeep s (qsv v (qw s.1 p) (pnd s.1 p v) s) := qsv_keep
    rw [if_neg (nI_ge (by omega) (by decide)), e1, Option.bind_some, nI_add]
    obtain ⟨υ, g1, g2, g3⟩ := ih (v + 1) m τ _ e2 (qsv_ok ho) (by omega) (fun v' h1 h2 => by rw [hk.2.2.2.2.1, e4 v' (by omega)]; exact hc v' (by omega) h2) (by omega)
    exact ⟨υ, g1, g2, e3.tr g3⟩
theorem pm_sing {σ : dc_HP} {s : pT} (h : pMS σ s) (ho : pOk s.1) {p c : Nat} (hp : p < 6) (hc : σ.1 55 19 = nI c) (hq : qcan s.1 p) : ∃ τ, fn_X9_singPiece σ (nI p) = some τ ∧ pMS τ (qsing p s) ∧ pFm [1, 2, 3, 18, 19] σ τ ∧ τ.1 55 19 = nI (c + 1) := by
  unfold fn_X9_singPiece
  simp only [dc_let]
  rw [hc, nI_add]
  have h1 : pMS (dc_wI σ 55 19 (nI (c + 1))) s := by
    refine ⟨h.1.other (fun j hj => ?_) (fun c j hc _ => ?_), ?_⟩
    · have : j ≠ 19 := by omega
      simp [dc_wI, this]
    · have : c ≠ 55 := by omega
      simp [dc_wI, this]
    · have := h.2
      simpa [dc_wI] using this
  obtain ⟨τ, e1, e2, e3⟩ := pl_msing hp 4 0 200 _ s h1 ho rfl (fun v _ h2 => hq v h2) (by decide)
  rw [e1]
  refine ⟨τ, rfl, e2, ?_, ?_⟩
  · exact (pFm.rf.w55 (by decide)).tr (e3.mono (by decide))
  · rw [e3.1 55 19 (by decide)]
    simp [dc_wI]
theorem pl_meven : ∀ d i n σ (V0 : pV), pM σ (pSde V0 (fun k => if k < i then qevd V0 k else pde V0 k)) → pOk V0 → i + d = 8 → d < n → ∃ τ, fn_X9_endEvening_L2 n (nI i) σ = some τ ∧ pM τ (pSde V0 (fun k => if k < 8 then qevd V0 k else pde V0 k)) ∧ pFm [] σ τ := by
  intro d
  induction d with
  | zero =>
    intro i n σ V0 h ho hi hn
    obtain ⟨m, rfl⟩ : ∃ m, n = m + 1 := ⟨n - 1, by omega⟩
    obtain rfl : i = 8 := by omega
    unfold fn_X9_endEvening_L2
    rw [if_pos (nI_le (by omega) (by omega))]
    exact ⟨σ, rfl, h, pFm.rf⟩
  | succ d ih =>
    intro i n σ V0 h ho hi hn
    obtain ⟨m, rfl⟩ : ∃ m, n = m + 1 := ⟨n - 1, by omega⟩
    have hdi := ho.2.2.1 i (by omega)
    -- writing x at place i
    have key : ∀ x : Int32, (pth V0 i = true → x = nI (qevd V0 i)) → ∃ υ, fn_X9_endEvening_L2 m (nI (i + 1)) (dc_wI σ 57 i x) = some υ ∧ pM υ (pSde V0 (fun k => if k < 8 then qevd V0 k else pde V0 k)) ∧ pFm [] σ υ := by
      intro x hx
      have h1 : pM (dc_wI σ 57 i x) (pSde V0 (fun k => if k < i + 1 then qevd V0 k else pde V0 k)) := by
        cases ht : pth V0 i with
        | true =>
          rw [hx ht]
          refine (h.de i (qevd V0 i)).congr rfl rfl rfl rfl rfl (fun k hk _ => ?_) rfl rfl rfl
          show (if k < i + 1 then qevd V0 k else pde V0 k) = pu (fun k => if k < i then qevd V0 k else pde V0 k) i (qevd V0 i) k
          by_cases c : k = i
          · subst c; rw [pu_s, if_pos (by omega)]
          · rw [pu_n _ _ c]
            by_cases c2 : k < i
            · rw [if_pos c2, if_pos (by omega)]
            · rw [if_neg c2, if_neg (by omega)]
        | false =>
          refine (h.de_any ht x).congr rfl rfl rfl rfl rfl (fun k hk ht2 => ?_) rfl rfl rfl
          show (if k < i + 1 then qevd V0 k else pde V0 k) = (if k < i then qevd V0 k else pde V0 k)
          have c : k ≠ i := fun q => by subst q; rw [show pth V0 k = true from ht2] at ht; cases ht
          by_cases c2 : k < i
          · rw [if_pos c2, if_pos (by omega)]
          · rw [if_neg c2, if_neg (by omega)]
      obtain ⟨υ, g1, g2, g3⟩ := ih (i + 1) m _ V0 h1 ho (by omega) (by omega)
      exact ⟨υ, g1, g2, pFm.rf.w57.tr g3⟩
    obtain ⟨hm, sm, h0, h1, h2, h3, h4, -⟩ := id h
    unfold fn_X9_endEvening_L2
    rw [if_neg (nI_ge (by omega) (by decide)), pm_is h (by omega), Option.bind_some, nI_add, h1, h2, px_pmbit _ (by decide) (by omega), px_pmbit _ (by decide) (by omega)]
    have i4 := nI_clamp (show i < 2 ^ 31 by omega)
    cases ht : pth V0 i with
    | false =>
      have ht' : pth (pSde V0 (fun k => if k < i then qevd V0 k else pde V0 k)) i = false := ht
      rw [if_pos (by simp [px_eq0]), Option.bind_some, if_pos nI_0, px_gg (by omega) (by decide), Option.bind_some, px_gg (by omega) (by decide), px_gg (by omega) (by decide), i4]
      simp only [dc_let]
      split
      · exact key _ (fun q => by rw [ht] at q; cases q)
      · exact key _ (fun q => by rw [ht] at q; cases q)
    | true =>
      have ht' : pth (pSde V0 (fun k => if k < i then qevd V0 k else pde V0 k)) i = true := ht
      obtain ⟨g1, g2, g3, g4⟩ := h4 i (by omega) ht
      have g4' : σ.1 57 i = nI (pde V0 i) := by
        rw [g4]
        show nI (if i < i then _ else _) = _
        rw [if_neg (Nat.lt_irrefl i)]
      have e1 : (if nI (if hm i = true then 1 else 0) = nI 1 then some (nI 1) else if nI (if sm i = true then 1 else 0) = 0 then some (nI 1) else some (nI 0)) = some (nI (if (pho V0 i || !psa V0 i) = true then 1 else 0)) := by
        rw [g1, g2]
        show (if nI (if pho V0 i = true then 1 else 0) = nI 1 then some (nI 1) else if nI (if psa V0 i = true then 1 else 0) = 0 then some (nI 1) else some (nI 0)) = _
        cases pho V0 i <;> cases psa V0 i <;> rfl
      rw [if_neg (by simp [px_eq0]), e1, Option.bind_some]
      have ev : qevd V0 i = if (pho V0 i || !psa V0 i) = true then min 999 (pde V0 i + pde V0 i / 10) else pde V0 i := by
        unfold qevd; rw [ht, Bool.true_and]
      simp only [dc_let]
      cases c : (pho V0 i || !psa V0 i) with
      | false =>
        rw [c] at ev
        rw [if_pos (by simp [px_eq0]), px_gg (by omega) (by decide), Option.bind_some, px_gg (by omega) (by decide), px_gg (by omega) (by decide), i4, g4', if_pos (nI_le (by omega) (by decide))]
        exact key _ (fun _ => by rw [ev]; rfl)
      | true =>
        rw [c] at ev
        rw [if_neg (by simp [px_eq0]), px_gg (by omega) (by decide), px_gg (by omega) (by decide), Option.bind_some, px_gg (by omega) (by decide), px_gg (by omega) (by decide), i4, g4', px_div10 (by omega), nI_add]
        by_cases c2 : pde V0 i + pde V0 i / 10 ≤ 999
        · rw [if_pos (nI_le c2 (by decide))]
          exact key _ (fun _ => by rw [ev, if_pos rfl, Nat.min_eq_right c2])
        · rw [if_neg (nI_ge (by omega) (by omega))]
          exact key _ (fun _ => by rw [ev, if_pos rfl, Nat.min_eq_left (by omega)])
theorem pm_even {σ : dc_HP} {V : pV} (h : pM σ V) (ho : pOk V) : ∃ τ, fn_X9_endEvening σ = some τ ∧ pM τ (pSev (pSsa (pSde V (qevd V)) (fun _ => false)) (pev V + 1)) ∧ pFm [2, 3] σ τ := by
  have hs : pM σ (pSde V (fun k => if k < 0 then qevd V k else pde V k)) := h.congr rfl rfl rfl rfl rfl (fun k _ _ => rfl) rfl rfl rfl
  obtain ⟨τ, e1, e2, e3⟩ := pl_meven 8 0 200 σ V hs ho rfl (by decide)
  unfold fn_X9_endEvening
  simp only [dc_let]
  rw [e1, Option.bind_some]
  have h2 : pM τ (pSde V (qevd V)) := e2.congr rfl rfl rfl rfl rfl (fun k hk _ => (if_pos hk).symm) rfl rfl rfl
  obtain ⟨hm, sm, h0, h1, h2', h3, -⟩ := id h2
  have e4 : (dc_wI τ 55 2 (nI 0)).1 55 3 = nI (pev V) := by simpa [dc_wI] using h3
  rw [e4, nI_add]
  exact ⟨_, rfl, h2.even rfl, ((e3.mono (by simp)).w55 (by decide)).w55 (by decide)⟩
/-- an act that can be happens in the reference -/
theorem pm_hap {σ : dc_HP} {s : pT} (h : pMS σ s) (ho : pOk s.1) {k a v c : Nat} (hk : k < 6) (ha : a < 8) (ha0 : k = 0 → a < 6) (hv3 : k = 3 → v < 8) (hv : v ≤ 2000) (hc : σ.1 55 19 = nI c) (hw : qwhy s.1 k a v = 0) : ∃ τ, fn_X9_happen σ (nI k) (nI a) (nI v) = some τ ∧ pMS τ (qhap k a v s) ∧ pFm [1, 2, 3, 18, 19] σ τ ∧ τ.1 55 19 = nI (if k = 0 then c + 1 else c) := by
  unfold fn_X9_happen
  have h19 : ∀ τ : dc_HP, pFm [1, 2, 3, 18] σ τ → τ.1 55 19 = nI c := fun τ q => (q.1 55 19 (by decide)).trans hc
  by_cases k0 : k = 0
  · subst k0
    have hq : qcan s.1 a := by
      have : qcanb s.1 a = true := by
        cases q : qcanb s.1 a with
        | true => rfl
        | false => simp [qwhy, q] at hw
      exact (qcanb_iff _ _).mp this
    obtain ⟨τ, e1, e2, e3, e4⟩ := pm_sing h ho (ha0 rfl) hc hq
    rw [if_pos rfl, e1, Option.bind_some]
    refine ⟨τ, rfl, ?_, e3, by rw [e4, if_pos rfl]⟩
    unfold qhap
    rw [if_pos rfl]
    exact e2
  rw [if_neg (fun q => k0 ((nI_eq (by omega) (by decide)).mp q))]
  have i4 := nI_clamp (show a < 2 ^ 31 by omega)
  by_cases k5 : k = 5
  · subst k5
    obtain ⟨τ, e1, e2, e3⟩ := pm_even h.1 ho
    rw [if_neg (by simp [nI_eq]), if_neg (by simp [nI_eq]), if_neg (by simp [nI_eq]), if_neg (by simp [nI_eq]), e1, Option.bind_some]
    have e4 : pFm [1, 2, 3, 18] σ τ := e3.mono (by decide)
    refine ⟨τ, rfl, ⟨e2, ?_⟩, e3.mono (by decide), h19 τ e4⟩
    rw [e3.1 55 18 (by decide)]
    exact h.2
  have hth : pth s.1 a = true := by
    cases q : pth s.1 a with
    | true => rfl
    | false => simp [qwhy, k5, k0, q] at hw
  obtain ⟨hm, sm, h0, h1, h2, h3, h4, -⟩ := id h.1
  have g4 := (h4 a ha hth).2.2.2
  rcases (show k = 1 ∨ k = 2 ∨ k = 3 ∨ k = 4 by omega) with rfl | rfl | rfl | rfl
  · rw [if_pos rfl, px_gg ha (by decide), px_gg ha (by decide), i4, g4, nI_add]
    refine ⟨_, rfl, ⟨h.1.de a _, ?_⟩, (pFm.rf.w57), ?_⟩
    · have := h.2
      simpa [dc_wI, qhap] using this
    · simpa [dc_wI] using hc
  · rw [if_neg (by simp [nI_eq]), if_pos rfl]
    refine ⟨_, rfl, ⟨h.1.ho ha, ?_⟩, (pFm.rf.w55 (by decide)), ?_⟩
    · have := h.2
      simpa [dc_wI, qhap] using this
    · simpa [dc_wI] using hc
  · have hv8 := hv3 rfl
    have htv : pth s.1 v = true := by
      cases q : pth s.1 v with
      | true => rfl
      | false => simp [qwhy, hth, q] at hw
    have hne : a ≠ v := by
      intro q
      simp [qwhy, hth, q, htv] at hw
    have g5 := (h4 v hv8 htv).2.2.2
    have i5 := nI_clamp (show v < 2 ^ 31 by omega)
    rw [if_neg (by simp [nI_eq]), if_neg (by simp [nI_eq]), if_pos rfl, px_gg hv8 (by decide), px_gg ha (by decide), px_gg hv8 (by decide), i4, i5, g4, g5, nI_add]
    simp only [dc_let]
    rw [px_gi ha (by decide)]
    refine ⟨_, rfl, ⟨(h.1.de v _).de a 0, ?_⟩, (pFm.rf.w57.w57), ?_⟩
    · have := h.2
      simpa [dc_wI, qhap] using this
    · simpa [dc_wI] using hc
  · rw [if_neg (by simp [nI_eq]), if_neg (by simp [nI_eq]), if_neg (by simp [nI_eq]), if_pos rfl, px_gg ha (by decide), i4]
    refine ⟨_, rfl, ⟨h.1.de a 0, ?_⟩, (pFm.rf.w57), ?_⟩
    · have := h.2
      simpa [dc_wI, qhap] using this
    · simpa [dc_wI] using hc
