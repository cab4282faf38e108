def qcanb (V : pV) (p : Nat) : Bool := (List.range 4).all (fun v => decide (pnd V p v ≤ pc (qrdy V v) 8))
theorem qcanb_iff (V : pV) (p : Nat) : qcanb V p = true ↔ qcan V p := by
  simp [qcanb, qcan, List.all_eq_true]
/-- why an act can not be (0: it can): kinds 0 sung, 1 borrows, 2 hoarse, 3 takes over, 4 let go, 5 the evening ends -/
def qwhy (V : pV) (k a v : Nat) : Nat :=
  if k = 5 then (if pev V = 99 then 5 else 0)
  else if k = 0 then (if qcanb V a = true then 0 else 4)
  else if pth V a = false then 1
  else if k = 1 then (if 999 < pde V a + v then 3 else 0)
  else if k = 3 then (if pth V v = false then 1 else if a = v ∨ pde V a = 0 then 2 else if 999 < pde V a + pde V v then 3 else 0)
  else if k = 4 then (if pde V a = 0 then 2 else 0)
  else 0
def qevd (V : pV) : Nat → Nat := fun k => if (pth V k && (pho V k || !psa V k)) = true then min 999 (pde V k + pde V k / 10) else pde V k
def qhap (k a v : Nat) (s : pT) : pT :=
  if k = 0 then qsing a s
  else if k = 1 then (pSde s.1 (pu (pde s.1) a (pde s.1 a + v)), s.2)
  else if k = 2 then (pSho s.1 (fun j => if j = a then !pho s.1 j else pho s.1 j), s.2)
  else if k = 3 then (pSde s.1 (pu (pu (pde s.1) v (pde s.1 v + pde s.1 a)) a 0), s.2)
  else if k = 4 then (pSde s.1 (pu (pde s.1) a 0), s.2)
  else (pSev (pSsa (pSde s.1 (qevd s.1)) (fun _ => false)) (pev s.1 + 1), s.2)
/-- the class's choir has done an act, or refused it -/
def pDo (σ : dc_HP) (b k a v : Nat) (s : pT) (r : Int32) (τ : dc_HP) : Prop := r = nI (qwhy s.1 k a v) ∧ (qwhy s.1 k a v = 0 → pCS τ b (qhap k a v s)) ∧ (qwhy s.1 k a v ≠ 0 → τ = σ) ∧ pF b (b + 5) σ τ
theorem pCS.de {σ : dc_HP} {b : Nat} {s : pT} (h : pCS σ b s) (k d : Nat) : pCS (dc_wI σ (b + 2) k (nI d)) b (pSde s.1 (pu (pde s.1) k d), s.2) := ⟨h.1.de k d, by have := h.2; simpa [dc_wI] using this⟩
theorem pc_sing' {σ : dc_HP} {b : Nat} {s : pT} (h : pCS σ b s) (ho : pOk s.1) {p v : Nat} (hp : p < 6) : ∃ r τ, fn_X0_sing σ b (nI p) = some (r, τ) ∧ pDo σ b 0 p v s r τ := by
  obtain ⟨g1, g2⟩ := pc_sing h ho hp
  by_cases q : qcan s.1 p
  · obtain ⟨τ, e1, e2, e3⟩ := g1 q
    have e : qwhy s.1 0 p v = 0 := by
      unfold qwhy
      rw [if_neg (by decide), if_pos rfl]
      exact if_pos ((qcanb_iff _ _).mpr q)
    refine ⟨_, τ, e1, by rw [e], fun _ => ?_, fun h => absurd e h, e3⟩
    unfold qhap
    rw [if_pos rfl]
    exact e2
  · have e : qwhy s.1 0 p v = 4 := by
      unfold qwhy
      rw [if_neg (by decide), if_pos rfl]
      exact if_neg (fun z => q ((qcanb_iff _ _).mp z))
    exact ⟨_, σ, g2 q, by rw [e], fun h => absurd (e.symm.trans h) (by decide), fun _ => rfl, pF.rf⟩
theorem pc_borrow {σ : dc_HP} {b : Nat} {s : pT} (h : pCS σ b s) (ho : pOk s.1) {a v : Nat} (ha : a < 8) (hv : v ≤ 2000) : ∃ r τ, fn_X0_borrow σ b (nI a) (nI v) = some (r, τ) ∧ pDo σ b 1 a v s r τ := by
  have hd := ho.2.2.1 a ha
  unfold fn_X0_borrow
  rw [pc_has h.1 ha, Option.bind_some]
  cases ht : pth s.1 a with
  | false =>
    have e : qwhy s.1 1 a v = 1 := by unfold qwhy; simp [ht]
    rw [if_pos (by simp [px_eq0])]
    exact ⟨_, σ, rfl, by rw [e], fun q => absurd (e.symm.trans q) (by decide), fun _ => rfl, pF.rf⟩
  | true =>
    rw [if_neg (by simp [px_eq0]), pc_debtOf h.1 ho ha, Option.bind_some, Option.bind_some, nI_add]
    by_cases c : pde s.1 a + v ≤ 999
    · have e : qwhy s.1 1 a v = 0 := by unfold qwhy; simp [ht]; omega
      rw [if_pos (nI_le c (by decide)), pc_owe h.1 ha ht, Option.bind_some]
      exact ⟨_, _, rfl, by rw [e], fun _ => h.de a _, fun q => absurd e q, pF.rf.w (by omega) (by omega)⟩
    · have e : qwhy s.1 1 a v = 3 := by unfold qwhy; simp [ht]; omega
      rw [if_neg (nI_ge (by omega) (by omega))]
      exact ⟨_, σ, rfl, by rw [e], fun q => absurd (e.symm.trans q) (by decide), fun _ => rfl, pF.rf⟩
theorem pc_hoarse {σ : dc_HP} {b : Nat} {s : pT} (h : pCS σ b s) {a v : Nat} (ha : a < 8) : ∃ r τ, fn_X0_turnHoarse σ b (nI a) = some (r, τ) ∧ pDo σ b 2 a v s r τ := by
  unfold fn_X0_turnHoarse
  rw [pc_has h.1 ha, Option.bind_some]
  cases ht : pth s.1 a with
  | false =>
    have e : qwhy s.1 2 a v = 1 := by unfold qwhy; simp [ht]
    rw [if_pos (by simp [px_eq0])]
    exact ⟨_, σ, rfl, by rw [e], fun q => absurd (e.symm.trans q) (by decide), fun _ => rfl, pF.rf⟩
  | true =>
    have e : qwhy s.1 2 a v = 0 := by unfold qwhy; simp [ht]
    rw [if_neg (by simp [px_eq0]), h.1.2.1, px_tog _ (by decide) ha]
    refine ⟨_, _, rfl, by rw [e], fun _ => ⟨h.1.ho _ rfl, ?_⟩, fun q => absurd e q, pF.rf.w (by omega) (by omega)⟩
    have := h.2
    simpa [dc_wI, qhap] using this
theorem pc_let {σ : dc_HP} {b : Nat} {s : pT} (h : pCS σ b s) (ho : pOk s.1) {a v : Nat} (ha : a < 8) : ∃ r τ, fn_X0_letGo σ b (nI a) = some (r, τ) ∧ pDo σ b 4 a v s r τ := by
  have hd := ho.2.2.1 a ha
  unfold fn_X0_letGo
  rw [pc_has h.1 ha, Option.bind_some]
  cases ht : pth s.1 a with
  | false =>
    have e : qwhy s.1 4 a v = 1 := by unfold qwhy; simp [ht]
    rw [if_pos (by simp [px_eq0])]
    exact ⟨_, σ, rfl, by rw [e], fun q => absurd (e.symm.trans q) (by decide), fun _ => rfl, pF.rf⟩
  | true =>
    rw [if_neg (by simp [px_eq0]), pc_debtOf h.1 ho ha, Option.bind_some]
    by_cases c : pde s.1 a = 0
    · have e : qwhy s.1 4 a v = 2 := by unfold qwhy; simp [ht, c]
      rw [if_pos ((px_eq0 (by omega)).mpr c)]
      exact ⟨_, σ, rfl, by rw [e], fun q => absurd (e.symm.trans q) (by decide), fun _ => rfl, pF.rf⟩
    · have e : qwhy s.1 4 a v = 0 := by unfold qwhy; simp [ht, c]
      rw [if_neg (fun q => c ((px_eq0 (by omega)).mp q)), pc_owe h.1 ha ht, Option.bind_some]
      exact ⟨_, _, rfl, by rw [e], fun _ => h.de a 0, fun q => absurd e q, pF.rf.w (by omega) (by omega)⟩
theorem pc_take {σ : dc_HP} {b : Nat} {s : pT} (h : pCS σ b s) (ho : pOk s.1) {a v : Nat} (ha : a < 8) (hv : v < 8) : ∃ r τ, fn_X0_takeOver σ b (nI a) (nI v) = some (r, τ) ∧ pDo σ b 3 a v s r τ := by
  have hd := ho.2.2.1 a ha
  have hd2 := ho.2.2.1 v hv
  unfold fn_X0_takeOver
  rw [pc_has h.1 ha, Option.bind_some, pc_has h.1 hv, Option.bind_some]
  cases ht : pth s.1 a with
  | false =>
    have e : qwhy s.1 3 a v = 1 := by unfold qwhy; simp [ht]
    rw [if_pos (by simp [px_eq0])]
    exact ⟨_, σ, rfl, by rw [e], fun q => absurd (e.symm.trans q) (by decide), fun _ => rfl, pF.rf⟩
  | true =>
    rw [if_neg (by simp [px_eq0])]
    cases hw : pth s.1 v with
    | false =>
      have e : qwhy s.1 3 a v = 1 := by unfold qwhy; simp [ht, hw]
      rw [if_pos (by simp [px_eq0])]
      exact ⟨_, σ, rfl, by rw [e], fun q => absurd (e.symm.trans q) (by decide), fun _ => rfl, pF.rf⟩
    | true =>
      rw [if_neg (by simp [px_eq0]), pc_debtOf h.1 ho ha, Option.bind_some]
      by_cases c1 : a = v
      · have e : qwhy s.1 3 a v = 2 := by unfold qwhy; simp [ht, hw, c1]
        rw [if_pos (by rw [c1])]
        exact ⟨_, σ, rfl, by rw [e], fun q => absurd (e.symm.trans q) (by decide), fun _ => rfl, pF.rf⟩
      · rw [if_neg (fun q => c1 ((nI_eq (by omega) (by omega)).mp q))]
        by_cases c2 : pde s.1 a = 0
        · have e : qwhy s.1 3 a v = 2 := by unfold qwhy; simp [ht, hw, c2]
          rw [if_pos ((px_eq0 (by omega)).mpr c2)]
          exact ⟨_, σ, rfl, by rw [e], fun q => absurd (e.symm.trans q) (by decide), fun _ => rfl, pF.rf⟩
        · rw [if_neg (fun q => c2 ((px_eq0 (by omega)).mp q)), pc_debtOf h.1 ho hv, Option.bind_some, Option.bind_some, nI_add]
          by_cases c3 : pde s.1 v + pde s.1 a ≤ 999
          · have e : qwhy s.1 3 a v = 0 := by unfold qwhy; simp [ht, hw, c1, c2]; omega
            have h2 := h.de v (pde s.1 v + pde s.1 a)
            rw [if_pos (nI_le c3 (by decide)), pc_owe h.1 hv hw, Option.bind_some, pc_owe h2.1 ha ht, Option.bind_some]
            exact ⟨_, _, rfl, by rw [e], fun _ => h2.de a 0, fun q => absurd e q, (pF.rf.w (by omega) (by omega)).w (by omega) (by omega)⟩
          · have e : qwhy s.1 3 a v = 3 := by unfold qwhy; simp [ht, hw, c1, c2]; omega
            rw [if_neg (nI_ge (by omega) (by omega))]
            exact ⟨_, σ, rfl, by rw [e], fun q => absurd (e.symm.trans q) (by decide), fun _ => rfl, pF.rf⟩
theorem pl_even {b : Nat} : ∀ d i n σ s (V0 : pV), pCS σ b s → pOk s.1 → pOk V0 → s.1 = pSde V0 (fun k => if k < i then qevd V0 k else pde V0 k) → i + d = 8 → d < n → ∃ τ, fn_X0_endEvening_L13 b n (nI i) σ = some τ ∧ pCS τ b (pSde V0 (fun k => if k < 8 then qevd V0 k else pde V0 k), s.2) ∧ pF b (b + 5) σ τ := by
  intro d
  induction d with
  | zero =>
    intro i n σ s V0 h ho ho0 hs hi hn
    obtain ⟨m, rfl⟩ : ∃ m, n = m + 1 := ⟨n - 1, by omega⟩
    obtain rfl : i = 8 := by omega
    unfold fn_X0_endEvening_L13
    rw [if_pos (nI_le (by omega) (by omega))]
    exact ⟨σ, rfl, by rw [← hs]; exact h, pF.rf⟩
  | succ d ih =>
    intro i n σ s V0 h ho ho0 hs hi hn
    obtain ⟨m, rfl⟩ : ∃ m, n = m + 1 := ⟨n - 1, by omega⟩
    have hde : pde s.1 i = pde V0 i := by rw [hs]; show (if i < i then _ else _) = _; rw [if_neg (Nat.lt_irrefl i)]
    have hdi := ho0.2.2.1 i (by omega)
    have hth : pth s.1 = pth V0 := by rw [hs]
    have hho : pho s.1 = pho V0 := by rw [hs]
    have hsa : psa s.1 = psa V0 := by rw [hs]
    -- the step to the next singer
    have key : ∀ τ d', pCS τ b (pSde s.1 (pu (pde s.1) i d'), s.2) → d' = qevd V0 i → pF b (b + 5) σ τ → ∃ υ, fn_X0_endEvening_L13 b m (nI (i + 1)) τ = some υ ∧ pCS υ b (pSde V0 (fun k => if k < 8 then qevd V0 k else pde V0 k), s.2) ∧ pF b (b + 5) σ υ := by
      intro τ d' h1 hd' hf
      have e : (pSde s.1 (pu (pde s.1) i d') : pV) = pSde V0 (fun k => if k < i + 1 then qevd V0 k else pde V0 k) := by
        rw [hs, hd']
        refine congrArg (fun f => (pSde V0 f : pV)) (funext fun k => ?_)
        by_cases c : k = i
        · subst c
          rw [if_pos (by omega)]
          exact pu_s _ _ _
        · rw [pu_n _ _ c]
          show (if k < i then _ else _) = _
          by_cases c2 : k < i
          · rw [if_pos c2, if_pos (by omega)]
          · rw [if_neg c2, if_neg (by omega)]
      have hq : qevd V0 i ≤ 999 := by
        unfold qevd
        split
        · exact Nat.min_le_left _ _
        · exact hdi
      have ho1 : pOk (pSde s.1 (pu (pde s.1) i d')) := by
        by_cases ht : pth s.1 i = true
        · exact ho.de (by rw [hd']; exact hq) ht
        · have ht' : pth V0 i = false := by rw [← hth]; simpa using ht
          have e0 : pu (pde s.1) i d' = pde s.1 := by
            funext k
            by_cases c : k = i
            · subst c
              rw [pu_s, hd', hde]
              unfold qevd
              simp [ht']
            · exact pu_n _ _ c
          have e1 : (pSde s.1 (pu (pde s.1) i d') : pV) = s.1 := by rw [e0]
          rw [e1]
          exact ho
      obtain ⟨υ, g1, g2, g3⟩ := ih (i + 1) m τ _ V0 h1 ho1 ho0 e (by omega) (by omega)
      exact ⟨υ, g1, g2, hf.tr g3⟩
    -- the two roads of a debt that grows
    have grow : (pho V0 i || !psa V0 i) = true → ∃ υ, ((fn_X0_debtOf σ b (nI i)).bind fun r44 => (fn_X0_owe σ b (nI i) (if (r44 + (r44 / (nI 10))) < (nI 999) then (r44 + (r44 / (nI 10))) else (nI 999))).bind fun r62 => fn_X0_endEvening_L13 b m (nI (i + 1)) r62) = some υ ∧ pCS υ b (pSde V0 (fun k => if k < 8 then qevd V0 k else pde V0 k), s.2) ∧ pF b (b + 5) σ υ := by
      intro hg
      rw [pc_debtOf h.1 ho (by omega), Option.bind_some, hde, px_div10 (by omega), nI_add]
      have e1 : (if nI (pde V0 i + pde V0 i / 10) < nI 999 then nI (pde V0 i + pde V0 i / 10) else nI 999) = nI (min 999 (pde V0 i + pde V0 i / 10)) := by
        by_cases c : pde V0 i + pde V0 i / 10 < 999
        · rw [if_pos (nI_lt c (by decide)), Nat.min_eq_right (by omega)]
        · rw [if_neg (nI_nlt (by omega) (by omega)), Nat.min_eq_left (by omega)]
      rw [e1]
      cases ht : pth V0 i with
      | true =>
        have ht' : pth s.1 i = true := by rw [hth]; exact ht
        rw [pc_owe h.1 (by omega) ht', Option.bind_some]
        exact key _ _ (h.de i _) (by unfold qevd; rw [ht, hg]; simp) (pF.rf.w (by omega) (by omega))
      | false =>
        have ht' : pth s.1 i = false := by rw [hth]; exact ht
        have e2 : fn_X0_owe σ b (nI i) (nI (min 999 (pde V0 i + pde V0 i / 10))) = some σ := by
          unfold fn_X0_owe
          rw [pc_has h.1 (by omega), ht']
          simp [px_eq0]
        rw [e2, Option.bind_some]
        refine key σ (pde s.1 i) ?_ (by rw [hde]; unfold qevd; simp [ht]) pF.rf
        have e0 : pu (pde s.1) i (pde s.1 i) = pde s.1 := by
          funext k
          by_cases c : k = i
          · subst c; exact pu_s _ _ _
          · exact pu_n _ _ c
        have e1 : (pSde s.1 (pu (pde s.1) i (pde s.1 i)) : pV) = s.1 := by rw [e0]
        rw [e1]
        exact h
    unfold fn_X0_endEvening_L13
    rw [if_neg (nI_ge (by omega) (by decide)), h.1.2.1, h.1.2.2.1, pc_bit (by omega), pc_bit (by omega), Option.bind_some, Option.bind_some, nI_add, hho, hsa]
    cases c1 : pho V0 i with
    | true =>
      rw [if_pos rfl, if_pos rfl]
      exact grow (by rw [c1]; rfl)
    | false =>
      rw [if_neg (by simp [nI_eq])]
      cases c2 : psa V0 i with
      | false =>
        rw [if_pos (by simp [px_eq0])]
        exact grow (by rw [c1, c2]; rfl)
      | true =>
        rw [if_neg (by simp [px_eq0])]
        refine key σ (pde s.1 i) ?_ (by rw [hde]; unfold qevd; simp [c1, c2]) pF.rf
        have e0 : pu (pde s.1) i (pde s.1 i) = pde s.1 := by
          funext k
          by_cases c : k = i
          · subst c; exact pu_s _ _ _
          · exact pu_n _ _ c
        have e1 : (pSde s.1 (pu (pde s.1) i (pde s.1 i)) : pV) = s.1 := by rw [e0]
        rw [e1]
        exact h
theorem pC.congr_de {σ : dc_HP} {b : Nat} {V : pV} {f g : Nat → Nat} (h : pC σ b (pSde V f)) (e : ∀ k, k < 8 → f k = g k) : pC σ b (pSde V g) := ⟨h.1, h.2.1, h.2.2.1, h.2.2.2.1, h.2.2.2.2.1, fun k hk => (h.2.2.2.2.2.1 k hk).trans (congrArg nI (e k hk)), h.2.2.2.2.2.2.1, h.2.2.2.2.2.2.2.1, h.2.2.2.2.2.2.2.2⟩
theorem pc_even {σ : dc_HP} {b : Nat} {s : pT} (h : pCS σ b s) (ho : pOk s.1) {a v : Nat} : ∃ r τ, fn_X0_endEvening σ b = some (r, τ) ∧ pDo σ b 5 a v s r τ := by
  unfold fn_X0_endEvening
  have h99 := ho.1
  rw [h.1.2.2.2.1]
  by_cases c : pev s.1 = 99
  · have e : qwhy s.1 5 a v = 5 := by unfold qwhy; simp [c]
    rw [if_neg (nI_nlt (by omega) (by omega))]
    exact ⟨_, σ, rfl, by rw [e], fun q => absurd (e.symm.trans q) (by decide), fun _ => rfl, pF.rf⟩
  · have e : qwhy s.1 5 a v = 0 := by unfold qwhy; simp [c]
    have hs : s.1 = pSde s.1 (fun k => if k < 0 then qevd s.1 k else pde s.1 k) := by simp [pSde]
    obtain ⟨τ, e1, e2, e3⟩ := pl_even 8 0 200 σ s s.1 h ho ho hs rfl (by decide)
    rw [if_pos (nI_lt (by omega) (by decide)), e1, Option.bind_some]
    unfold dc_let
    have h2 : pC τ b (pSde s.1 (qevd s.1)) := e2.1.congr_de (fun k hk => if_pos hk)
    have h3 := h2.sa (fun _ => false) (x := nI 0) (by decide)
    have h4 := h3.ev (pev s.1 + 1) (x := (dc_wI τ b 2 (nI 0)).1 b 3 + nI 1) (by rw [h3.2.2.2.1, nI_add])
    refine ⟨_, _, rfl, by rw [e], fun _ => ⟨h4, ?_⟩, fun q => absurd e q, (e3.w (by omega) (by omega)).w (by omega) (by omega)⟩
    have := e2.2
    simpa [dc_wI, qhap] using this
theorem qhap_ok {k a v : Nat} {s : pT} (ho : pOk s.1) (hw : qwhy s.1 k a v = 0) (hk : k < 6) (hv : k = 3 → v < 8) : pOk (qhap k a v s).1 := by
  unfold qhap
  unfold qwhy at hw
  by_cases k0 : k = 0
  · rw [if_pos k0]; exact qspl_ok ho
  by_cases k5 : k = 5
  · subst k5
    rw [if_neg (by decide), if_neg (by decide), if_neg (by decide), if_neg (by decide), if_neg (by decide)]
    obtain ⟨h0, h1, h2, h3, h4, h5, h6⟩ := ho
    have hev : pev s.1 ≠ 99 := by
      intro q
      simp [q] at hw
    refine ⟨by show pev s.1 + 1 ≤ 99; omega, h1, fun j hj => ?_, h3, h4, h5, fun j hj ht => ⟨(h6 j hj ht).1, rfl, ?_⟩⟩
    · show qevd s.1 j ≤ 999
      unfold qevd
      split
      · exact Nat.min_le_left _ _
      · exact h2 j hj
    · show qevd s.1 j = 0
      unfold qevd
      rw [show pth s.1 j = false from ht]
      simp [(h6 j hj ht).2.2]
  rw [if_neg k5, if_neg k0] at hw
  have hth : pth s.1 a = true := by
    cases q : pth s.1 a with
    | true => rfl
    | false => rw [q] at hw; simp at hw
  rw [hth, if_neg (by decide)] at hw
  rw [if_neg k0]
  by_cases k1 : k = 1
  · subst k1
    rw [if_pos rfl] at hw ⊢
    refine ho.de ?_ hth
    split at hw
    · cases hw
    · omega
  rw [if_neg k1] at hw ⊢
  by_cases k2 : k = 2
  · subst k2
    rw [if_pos rfl]
    refine ho.ho (fun j hj hf => ?_)
    have : j ≠ a := fun q => by subst q; rw [show pth s.1 j = false from hf] at hth; cases hth
    simp [this, (ho.2.2.2.2.2.2 j hj hf).1]
  rw [if_neg k2]
  by_cases k3 : k = 3
  · subst k3
    rw [if_pos rfl] at hw ⊢
    have hv8 := hv rfl
    have htv : pth s.1 v = true := by
      cases q : pth s.1 v with
      | true => rfl
      | false => rw [q] at hw; simp at hw
    rw [htv, if_neg (by decide)] at hw
    split at hw
    · cases hw
    · split at hw
      · cases hw
      · exact (ho.de (k := v) (d := pde s.1 v + pde s.1 a) (by omega) htv).de (k := a) (d := 0) (by omega) hth
  rw [if_neg k3] at hw ⊢
  have k4 : k = 4 := by omega
  subst k4
  rw [if_pos rfl]
  exact ho.de (by omega) hth
def qsum (f : Nat → Nat) : Nat → Nat
  | 0 => 0
  | n + 1 => qsum f n + f n
theorem pl_all {σ : dc_HP} {b : Nat} {V : pV} (h : pC σ b V) (ho : pOk V) : ∀ d i n, i + d = 8 → d < n → fn_X0_allDebts_L4 σ b n (nI (qsum (pde V) i)) (nI i) = some (nI (qsum (pde V) 8)) := by
  intro d
  induction d with
  | zero =>
    intro i n hi hn
    obtain ⟨m, rfl⟩ : ∃ m, n = m + 1 := ⟨n - 1, by omega⟩
    obtain rfl : i = 8 := by omega
    unfold fn_X0_allDebts_L4
    rw [if_pos (nI_le (by omega) (by omega))]
  | succ d ih =>
    intro i n hi hn
    obtain ⟨m, rfl⟩ : ∃ m, n = m + 1 := ⟨n - 1, by omega⟩
    unfold fn_X0_allDebts_L4
    rw [if_neg (nI_ge (by omega) (by decide)), pc_debtOf h ho (by omega), Option.bind_some, nI_add, nI_add]
    exact ih (i + 1) m (by omega) (by omega)
theorem pc_all {σ : dc_HP} {b : Nat} {V : pV} (h : pC σ b V) (ho : pOk V) : fn_X0_allDebts σ b = some (nI (qsum (pde V) 8)) := by
  unfold fn_X0_allDebts
  have e := pl_all h ho 8 0 200 rfl (by decide)
  rw [show qsum (pde V) 0 = 0 from rfl] at e
  rw [e]
  rfl
