/-! operations that run the pad -/
def pOp (f g : dc_HP → Option (Int32 × dc_HP)) : Prop := ∀ σ, pRL σ → ∃ r σ1 σ2, f σ = some (r, σ1) ∧ g σ1 = some (r, σ2) ∧ pRL σ2
theorem pr_of {x : Int32} {k : Nat} (hk : k < 2 ^ 31) (h : pr x 0 k) : ∃ j, j ≤ k ∧ x = nI j := px_of hk h.1 h.2
theorem pOp.rd {r : Int32} {f g : dc_HP → Option (Int32 × dc_HP)} {σ : dc_HP} (h : pRL σ) (h1 : f σ = some (r, σ)) (h2 : g σ = some (r, σ)) : ∃ r σ1 σ2, f σ = some (r, σ1) ∧ g σ1 = some (r, σ2) ∧ pRL σ2 := ⟨r, σ, σ, h1, h2, h⟩
theorem qrun_th : ∀ (L : List pA) k r, pth (qrun L k r).1.1.1.1 = pth r.1.1 := by
  intro L
  induction L with
  | nil => intro k r; rfl
  | cons a L ih =>
    intro k r
    rw [qrun]
    split
    · rw [ih]; exact qhap_th
    · rfl
theorem qrun_n : ∀ (L : List pA) k r, (qrun L k r).2 = none → (qrun L k r).1.2 = k + L.length := by
  intro L
  induction L with
  | nil => intro k r _; rfl
  | cons a L ih =>
    intro k r h
    rw [qrun] at h ⊢
    split at h
    · next c =>
      rw [if_pos c, ih _ _ h]
      simp only [List.length_cons]
      omega
    · cases h
/-- the class's run, and the reference's wherever it stands -/
theorem pb_runG {σ : dc_HP} {G : pG} (ho : pGok G) (hc : pCL σ G) (hm : pML σ G) : ∃ α, pF 14 20 σ α ∧ pCL α G ∧ pML α G ∧
    ((fn_X7_play σ 1 = some ((-5 : Int32), α) ∧ ∀ δ, pML δ G → ∃ β, pSv δ β ∧ fn_X9_refusal δ = some ((-5 : Int32), β)) ∨
     (∃ k w : Nat, fn_X7_play σ 1 = some ((-3 : Int32), α) ∧ α.1 14 2 = nI k ∧ α.1 14 3 = nI w ∧ ∀ δ, pML δ G → ∃ β, pSv δ β ∧ fn_X9_refusal δ = some ((-3 : Int32), β) ∧ β.1 55 21 = nI k ∧ β.1 55 22 = nI w) ∨
     (∃ (r : pR) (n : Nat), n ≤ 60 ∧ fn_X7_play σ 1 = some (nI 0, α) ∧ pTr α r n ∧ pOk r.1.1 ∧ pth r.1.1 = pth G.1 ∧ ∀ δ, pML δ G → ∃ β, pSv δ β ∧ fn_X9_refusal δ = some ((-6 : Int32), β) ∧ pMr β r ∧ β.1 55 21 = (-6 : Int32) ∧ β.1 55 22 = (-6 : Int32) ∧ β.1 55 17 = nI n)) := by
  obtain ⟨α, a1, a2, a3⟩ := pc_play hc.2.1 ho.2.1 hc.1 ho.1
  have hcα := hc.scr a1 (by decide) (by decide)
  have hmα := hm.c ho a1 (by decide)
  refine ⟨α, a1, hcα, hmα, ?_⟩
  cases hq : qpar G.2.1 61 0 with
  | inl p =>
    refine Or.inl ⟨a2 p hq, fun δ hδ => ?_⟩
    obtain ⟨β, b1, b2, b3⟩ := pm_ref hδ.2.1 ho.2.1 hδ.1 ho.1
    exact ⟨β, b1, b2 p hq⟩
  | inr L =>
    have hl := qpar_len 61 0 L hq (Nat.zero_le _)
    have h60 := ho.2.1.1
    obtain ⟨c1, c2⟩ := a3 L hq
    cases hw : (qrun L 0 ((G.1, 0), 0, none)).2 with
    | none =>
      obtain ⟨e1, e2, e3⟩ := c1 hw
      have hn := qrun_n L 0 _ hw
      refine Or.inr (Or.inr ⟨_, _, ?_, e1, e2, e3, qrun_th L 0 _, fun δ hδ => ?_⟩)
      · omega
      · obtain ⟨β, b1, b2, b3⟩ := pm_ref hδ.2.1 ho.2.1 hδ.1 ho.1
        obtain ⟨d1, d2, d3⟩ := b3 L hq
        obtain ⟨f1, f2, f3, f4⟩ := d2 hw
        exact ⟨β, b1, f1, f2, f3, f4, by rw [d1, hn, Nat.zero_add]⟩
    | some w =>
      obtain ⟨e1, e2, e3⟩ := c2 w hw
      refine Or.inr (Or.inl ⟨_, _, e1, e2, e3, fun δ hδ => ?_⟩)
      obtain ⟨β, b1, b2, b3⟩ := pm_ref hδ.2.1 ho.2.1 hδ.1 ho.1
      obtain ⟨d1, d2, d3⟩ := b3 L hq
      exact ⟨β, b1, d3 w hw⟩
/-- both runs, one behind the other -/
theorem pb_run {σ : dc_HP} {G : pG} (ho : pGok G) (hc : pCL σ G) (hm : pML σ G) : ∃ α β, pF 14 20 σ α ∧ pCL α G ∧ pML α G ∧ pSv α β ∧ pCL β G ∧
    ((fn_X7_play σ 1 = some ((-5 : Int32), α) ∧ fn_X9_refusal α = some ((-5 : Int32), β)) ∨
     (∃ k w : Nat, fn_X7_play σ 1 = some ((-3 : Int32), α) ∧ α.1 14 2 = nI k ∧ α.1 14 3 = nI w ∧ fn_X9_refusal α = some ((-3 : Int32), β) ∧ β.1 55 21 = nI k ∧ β.1 55 22 = nI w) ∨
     (∃ (r : pR) (n : Nat), n ≤ 60 ∧ fn_X7_play σ 1 = some (nI 0, α) ∧ pTr α r n ∧ pOk r.1.1 ∧ pth r.1.1 = pth G.1 ∧ fn_X9_refusal α = some ((-6 : Int32), β) ∧ pMr β r ∧ β.1 55 21 = (-6 : Int32) ∧ β.1 55 22 = (-6 : Int32) ∧ β.1 55 17 = nI n)) := by
  obtain ⟨α, a1, a2, a3, h⟩ := pb_runG ho hc hm
  have hb : ∀ β, pSv α β → pCL β G := fun β b => a2.m b.1 (fun c j w => by unfold Wa at w; omega)
  rcases h with ⟨p1, p2⟩ | ⟨k, w, p1, p2, p3, p4⟩ | ⟨r, n, p0, p1, p2, p3, p4, p5⟩
  · obtain ⟨β, b1, b2⟩ := p2 α a3
    exact ⟨α, β, a1, a2, a3, b1, hb β b1, Or.inl ⟨p1, b2⟩⟩
  · obtain ⟨β, b1, b2⟩ := p4 α a3
    exact ⟨α, β, a1, a2, a3, b1, hb β b1, Or.inr (Or.inl ⟨k, w, p1, p2, p3, b2⟩)⟩
  · obtain ⟨β, b1, b2⟩ := p5 α a3
    exact ⟨α, β, a1, a2, a3, b1, hb β b1, Or.inr (Or.inr ⟨r, n, p0, p1, p2, p3, p4, b2⟩)⟩
theorem pb_back {α β : dc_HP} {G : pG} (ho : pGok G) (hc : pCL α G) (hm : pML α G) (hs : pSv α β) (x : Int32) : ∃ υ, fn_X9_back β x = some (x, υ) ∧ pRL υ ∧ (∀ j, j ≠ 1 → j ≠ 2 → j ≠ 3 → υ.1 55 j = β.1 55 j) := by
  obtain ⟨υ, u1, u2, u3, u4⟩ := pm_backRL ho hm hs x
  exact ⟨υ, u1, ⟨G, ho, hc.m u3 (fun c j w => by unfold Wa at w; omega), u2⟩, u4⟩
theorem pl_mallD {σ : dc_HP} {V : pV} (h : pM σ V) (ho : pOk V) : ∀ d i n, i + d = 8 → d < n → fn_X9_allDebts_L4 σ n (nI (qsum (pde V) i)) (nI i) = some (nI (qsum (pde V) 8)) := by
  intro d
  induction d with
  | zero =>
    intro i n hi hn
    obtain ⟨m, rfl⟩ : ∃ m, n = m + 1 := ⟨n - 1, by omega⟩
    obtain rfl : i = 8 := by omega
    unfold fn_X9_allDebts_L4
    rw [if_pos (nI_le (Nat.le_refl 8) (by decide))]
  | succ d ih =>
    intro i n hi hn
    obtain ⟨m, rfl⟩ : ∃ m, n = m + 1 := ⟨n - 1, by omega⟩
    unfold fn_X9_allDebts_L4
    rw [if_neg (nI_ge (by omega) (by decide)), pm_is h (by omega), Option.bind_some, px_gg (by omega) (by decide), nI_clamp (by omega), nI_add, nI_add]
    have e := ih (i + 1) m (by omega) (by omega)
    cases ht : pth V i with
    | false =>
      have z := (ho.2.2.2.2.2.2 i (by omega) ht).2.2
      rw [show qsum (pde V) (i + 1) = qsum (pde V) i + 0 by rw [qsum, z]] at e
      rw [if_pos (by decide)]
      exact e
    | true =>
      obtain ⟨hm, sm, h0, h1, h2, h3, h4, h5, h6, h7⟩ := h
      rw [if_neg (by decide), (h4 i (by omega) ht).2.2.2, nI_add]
      exact e
theorem pm_allD {σ : dc_HP} {V : pV} (h : pM σ V) (ho : pOk V) : fn_X9_allDebts σ = some (nI (qsum (pde V) 8)) := by
  unfold fn_X9_allDebts
  have e := pl_mallD h ho 8 0 200 rfl (by decide)
  rw [show qsum (pde V) 0 = 0 from rfl] at e
  rw [e, Option.bind_some]
theorem op_judge (x : Int32) : pOp (fun σ => fn_X8_judge σ x) (fun σ => fn_X9_judge σ x) := by
  intro σ hR
  obtain ⟨G, ho, hc, hm⟩ := hR
  by_cases hx : pr x 0 2
  · obtain ⟨α, β, a1, a2, a3, a4, a5, h⟩ := pb_run ho hc hm
    have e1 := (px_within (x := x) (lo := 0) (hi := 2) (by decide) (by decide)).1 hx
    have e2 := (px_in (x := x) (lo := 0) (hi := 2) (L := 0) (H := 2) (by decide) (by decide)).1 hx
    obtain ⟨k, hk, rfl⟩ := pr_of (by decide) hx
    simp only [fn_X8_judge, fn_X9_judge, e1, e2, Option.bind_some]
    rw [if_neg (show ¬ nI 1 = 0 by decide)]
    rcases h with ⟨p1, p2⟩ | ⟨n, w, p1, p2, p3, p4, p5, p6⟩ | ⟨r, n, p0, p1, p2, p3, p4, p5, p6, p7, p8, p9⟩
    · obtain ⟨υ, u1, u2, u3⟩ := pb_back ho a2 a3 a4 (-5 : Int32)
      refine ⟨_, α, υ, by rw [p1, Option.bind_some, if_pos rfl], ?_, u2⟩
      rw [if_neg (show ¬ nI 1 = 0 by decide), p2, Option.bind_some, u1, Option.bind_some, if_pos rfl]
    · obtain ⟨υ, u1, u2, u3⟩ := pb_back ho a2 a3 a4 (-3 : Int32)
      refine ⟨if k = 2 then (-3 : Int32) else if k = 0 then nI n else nI w, α, υ, ?_, ?_, u2⟩
      · rw [p1, Option.bind_some]
        dsimp only
        rw [if_neg (by decide), if_pos rfl, p2, p3]
        match k, hk with
        | 0, _ => rfl
        | 1, _ => rfl
        | 2, _ => rfl
      · rw [if_neg (show ¬ nI 1 = 0 by decide), p4, Option.bind_some, u1, Option.bind_some]
        dsimp only
        rw [if_neg (by decide), u3 21 (by decide) (by decide) (by decide), u3 22 (by decide) (by decide) (by decide), p5, p6]
        match k, hk with
        | 0, _ => rfl
        | 1, _ => rfl
        | 2, _ => rfl
    · obtain ⟨υ, u1, u2, u3⟩ := pb_back ho a2 a3 a4 (-6 : Int32)
      refine ⟨if k = 2 then nI r.2.1 else (-6 : Int32), α, υ, ?_, ?_, u2⟩
      · rw [p1, Option.bind_some]
        dsimp only
        rw [if_neg (by decide), if_neg (by decide), p2.2.2.1, p2.2.2.2.2.2.1, p2.2.2.2.2.2.2]
        match k, hk with
        | 0, _ => rfl
        | 1, _ => rfl
        | 2, _ => rfl
      · rw [if_neg (show ¬ nI 1 = 0 by decide), p5, Option.bind_some, u1, Option.bind_some]
        dsimp only
        rw [if_neg (show ¬ (-6 : Int32) = (-5 : Int32) by decide), if_neg (show ¬ (-6 : Int32) = (-3 : Int32) by decide), u3 21 (by decide) (by decide) (by decide), u3 22 (by decide) (by decide) (by decide), u3 19 (by decide) (by decide) (by decide), p7, p8, p6.2.1]
        match k, hk with
        | 0, _ => rfl
        | 1, _ => rfl
        | 2, _ => rfl
  · refine ⟨(-2 : Int32), σ, σ, ?_, ?_, ⟨G, ho, hc, hm⟩⟩
    · simp only [fn_X8_judge, (px_within (x := x) (lo := 0) (hi := 2) (by decide) (by decide)).2 hx, Option.bind_some]
      rw [if_pos nI_0]
    · simp only [fn_X9_judge, (px_in (x := x) (lo := 0) (hi := 2) (L := 0) (H := 2) (by decide) (by decide)).2 hx, Option.bind_some]
      rw [if_pos nI_0]
theorem op_freed (x : Int32) : pOp (fun σ => fn_X8_freed σ x) (fun σ => fn_X9_freed σ x) := by
  intro σ hR
  obtain ⟨G, ho, hc, hm⟩ := hR
  by_cases hx : pr x 0 1
  · obtain ⟨α, β, a1, a2, a3, a4, a5, h⟩ := pb_run ho hc hm
    have e1 := (px_within (x := x) (lo := 0) (hi := 1) (by decide) (by decide)).1 hx
    have e2 := (px_in (x := x) (lo := 0) (hi := 1) (L := 0) (H := 1) (by decide) (by decide)).1 hx
    obtain ⟨k, hk, rfl⟩ := pr_of (by decide) hx
    simp only [fn_X8_freed, fn_X9_freed, e1, e2, Option.bind_some]
    rw [if_neg (show ¬ nI 1 = 0 by decide)]
    rcases h with ⟨p1, p2⟩ | ⟨n, w, p1, p2, p3, p4, p5, p6⟩ | ⟨r, n, p0, p1, p2, p3, p4, p5, p6, p7, p8, p9⟩
    · obtain ⟨υ, u1, u2, u3⟩ := pb_back ho a2 a3 a4 (-5 : Int32)
      refine ⟨_, α, υ, by rw [p1, Option.bind_some]; exact if_neg (show ¬ (-5 : Int32) = 0 by decide), ?_, u2⟩
      rw [if_neg (show ¬ nI 1 = 0 by decide), p2, Option.bind_some, u1, Option.bind_some]
      exact if_neg (show ¬ (-5 : Int32) = (-6 : Int32) by decide)
    · obtain ⟨υ, u1, u2, u3⟩ := pb_back ho a2 a3 a4 (-3 : Int32)
      refine ⟨_, α, υ, by rw [p1, Option.bind_some]; exact if_neg (show ¬ (-3 : Int32) = 0 by decide), ?_, u2⟩
      rw [if_neg (show ¬ nI 1 = 0 by decide), p4, Option.bind_some, u1, Option.bind_some]
      exact if_neg (show ¬ (-3 : Int32) = (-6 : Int32) by decide)
    · obtain ⟨υ, u1, u2, u3⟩ := pb_back ho a2 a3 a4 (-6 : Int32)
      refine ⟨if k = 0 then qf1 r.2.2 else qf2 r.2.2, α, υ, ?_, ?_, u2⟩
      · rw [p1, Option.bind_some]
        dsimp only
        rw [if_pos (by decide), p2.2.2.2.1, p2.2.2.2.2.1]
        match k, hk with
        | 0, _ => rfl
        | 1, _ => rfl
      · rw [if_neg (show ¬ nI 1 = 0 by decide), p5, Option.bind_some, u1, Option.bind_some]
        dsimp only
        rw [if_pos rfl, u3 23 (by decide) (by decide) (by decide), u3 24 (by decide) (by decide) (by decide), p6.2.2.1, p6.2.2.2]
        match k, hk with
        | 0, _ => rfl
        | 1, _ => rfl
  · refine ⟨(-2 : Int32), σ, σ, ?_, ?_, ⟨G, ho, hc, hm⟩⟩
    · simp only [fn_X8_freed, (px_within (x := x) (lo := 0) (hi := 1) (by decide) (by decide)).2 hx, Option.bind_some]
      rw [if_pos nI_0]
    · simp only [fn_X9_freed, (px_in (x := x) (lo := 0) (hi := 1) (L := 0) (H := 1) (by decide) (by decide)).2 hx, Option.bind_some]
      rw [if_pos nI_0]

theorem op_owed (x : Int32) : pOp (fun σ => fn_X8_owed σ x) (fun σ => fn_X9_owed σ x) := by
  intro σ hR
  obtain ⟨G, ho, hc, hm⟩ := hR
  by_cases hx : pr x 0 1
  · obtain ⟨α, β, a1, a2, a3, a4, a5, h⟩ := pb_run ho hc hm
    have e1 := (px_within (x := x) (lo := 0) (hi := 1) (by decide) (by decide)).1 hx
    have e2 := (px_in (x := x) (lo := 0) (hi := 1) (L := 0) (H := 1) (by decide) (by decide)).1 hx
    obtain ⟨k, hk, rfl⟩ := pr_of (by decide) hx
    simp only [fn_X8_owed, fn_X9_owed, e1, e2, Option.bind_some]
    rw [if_neg (show ¬ nI 1 = 0 by decide)]
    rcases h with ⟨p1, p2⟩ | ⟨n, w, p1, p2, p3, p4, p5, p6⟩ | ⟨r, n, p0, p1, p2, p3, p4, p5, p6, p7, p8, p9⟩
    · obtain ⟨υ, u1, u2, u3⟩ := pb_back ho a2 a3 a4 (-5 : Int32)
      refine ⟨_, α, υ, by rw [p1, Option.bind_some]; exact if_neg (show ¬ (-5 : Int32) = 0 by decide), ?_, u2⟩
      rw [if_neg (show ¬ nI 1 = 0 by decide), p2, Option.bind_some]
      dsimp only
      rw [if_neg (show ¬ (-5 : Int32) = (-6 : Int32) by decide), Option.bind_some, u1, Option.bind_some]
    · obtain ⟨υ, u1, u2, u3⟩ := pb_back ho a2 a3 a4 (-3 : Int32)
      refine ⟨_, α, υ, by rw [p1, Option.bind_some]; exact if_neg (show ¬ (-3 : Int32) = 0 by decide), ?_, u2⟩
      rw [if_neg (show ¬ nI 1 = 0 by decide), p4, Option.bind_some]
      dsimp only
      rw [if_neg (show ¬ (-3 : Int32) = (-6 : Int32) by decide), Option.bind_some, u1, Option.bind_some]
    · have f1 := pc_all p2.1.1 p3
      have f2 := pm_allD p6.1.1 p3
      obtain ⟨υ, u1, u2, u3⟩ := pb_back ho a2 a3 a4 (if k = 0 then nI (qsum (pde r.1.1) 8) else nI r.1.2)
      refine ⟨(if k = 0 then nI (qsum (pde r.1.1) 8) else nI r.1.2), α, υ, ?_, ?_, u2⟩
      · rw [p1, Option.bind_some]
        dsimp only
        rw [if_pos (by decide), f1, p2.1.2]
        rcases (show k = 0 ∨ k = 1 by omega) with rfl | rfl
        · rw [if_pos nI_0, if_pos rfl]; rfl
        · rw [if_neg (show ¬ nI 1 = 0 by decide), if_neg (show ¬ 1 = 0 by decide)]
      · rw [if_neg (show ¬ nI 1 = 0 by decide), p5, Option.bind_some]
        dsimp only
        rw [if_pos rfl, f2, p6.1.2, Option.bind_some]
        have : (if nI k = 0 then some (nI (qsum (pde r.1.1) 8)) else some (nI r.1.2)) = some (if k = 0 then nI (qsum (pde r.1.1) 8) else nI r.1.2) := by
          rcases (show k = 0 ∨ k = 1 by omega) with rfl | rfl
          · rw [if_pos nI_0, if_pos rfl]
          · rw [if_neg (show ¬ nI 1 = 0 by decide), if_neg (show ¬ 1 = 0 by decide)]
        rw [this, Option.bind_some, u1, Option.bind_some]
  · refine ⟨(-2 : Int32), σ, σ, ?_, ?_, ⟨G, ho, hc, hm⟩⟩
    · simp only [fn_X8_owed, (px_within (x := x) (lo := 0) (hi := 1) (by decide) (by decide)).2 hx, Option.bind_some]
      rw [if_pos nI_0]
    · simp only [fn_X9_owed, (px_in (x := x) (lo := 0) (hi := 1) (L := 0) (H := 1) (by decide) (by decide)).2 hx, Option.bind_some]
      rw [if_pos nI_0]

theorem op_done : pOp fn_X8_done fn_X9_done := by
  intro σ hR
  obtain ⟨G, ho, hc, hm⟩ := hR
  obtain ⟨α, a1, a2, a3, h⟩ := pb_runG ho hc hm
  rcases h with ⟨p1, p2⟩ | ⟨k, w, p1, p2, p3, p4⟩ | ⟨r, n, p0, p1, p2, p3, p4, p5⟩
  · obtain ⟨β, b1, b2⟩ := p2 α a3
    obtain ⟨υ, u1, u2, u3⟩ := pb_back ho a2 a3 b1 (-5 : Int32)
    refine ⟨(-5 : Int32), α, υ, ?_, ?_, u2⟩
    · rw [fn_X8_done, p1, Option.bind_some]; exact if_neg (show ¬ (-5 : Int32) = 0 by decide)
    · rw [fn_X9_done, b2, Option.bind_some]
      dsimp only
      rw [if_neg (show ¬ (-5 : Int32) = (-6 : Int32) by decide), u1, Option.bind_some]
  · obtain ⟨β, b1, b2, -⟩ := p4 α a3
    obtain ⟨υ, u1, u2, u3⟩ := pb_back ho a2 a3 b1 (-3 : Int32)
    refine ⟨(-3 : Int32), α, υ, ?_, ?_, u2⟩
    · rw [fn_X8_done, p1, Option.bind_some]; exact if_neg (show ¬ (-3 : Int32) = 0 by decide)
    · rw [fn_X9_done, b2, Option.bind_some]
      dsimp only
      rw [if_neg (show ¬ (-3 : Int32) = (-6 : Int32) by decide), u1, Option.bind_some]
  · obtain ⟨γ, g1, g2, g3⟩ := pc_copy_1_15 p2.1.1
    generalize hδ : dc_wI γ 12 0 (nI 0) = δ
    have hδ1 : ∀ c j, ¬ (c = 12 ∧ j = 0) → δ.1 c j = γ.1 c j := fun c j q => by rw [← hδ]; simp [dc_wI, q]
    have hδ0 : δ.1 12 0 = nI 0 := by rw [← hδ]; simp [dc_wI]
    have hmδ : pML δ G := a3.other ho (fun c j u => (hδ1 c j (by unfold Um at u; omega)).trans (g3.1 c j (by unfold Um at u; omega)))
    obtain ⟨ε, b1, b2, b3, b4, b5, b6⟩ := p5 δ hmδ
    generalize hζ : dc_wI ε 55 13 (nI 0) = ζ
    have hζ1 : ∀ c j, ¬ (c = 55 ∧ j = 13) → ζ.1 c j = ε.1 c j := fun c j q => by rw [← hζ]; simp [dc_wI, q]
    have hζ0 : ζ.1 55 13 = nI 0 := by rw [← hζ]; simp [dc_wI]
    have hcl : ∀ c j, c ≤ 54 → ζ.1 c j = δ.1 c j := fun c j q => (hζ1 c j (by omega)).trans (b1.1.1 c j (fun w => by unfold Wa at w; omega))
    have hml : ∀ c j, Um c j → c ≠ 57 → ¬ (c = 55 ∧ (j < 4 ∨ j = 13)) → ζ.1 c j = δ.1 c j := fun c j u q1 q2 => (hζ1 c j (by omega)).trans (b1.1.1 c j (fun w => by unfold Wa at w; unfold Um at u; omega))
    refine ⟨nI n, δ, ζ, ?_, ?_, (r.1.1, (G.2.1.1, 0), G.2.2), ⟨p3, ⟨Nat.zero_le _, fun i hi => absurd hi (Nat.not_lt_zero i)⟩, ho.2.2⟩, ⟨?_, ?_, ?_, ?_, ?_⟩, ?_, ?_, ?_, ?_, ?_⟩
    · rw [fn_X8_done, p1, Option.bind_some]
      dsimp only
      rw [if_pos (by decide), g1, Option.bind_some]
      simp only [dc_let, hδ]
      rw [hδ1 14 1 (by decide), g3.1 14 1 (by decide), p2.2.1]
    · rw [fn_X9_done, b2, Option.bind_some]
      dsimp only
      rw [if_pos rfl]
      simp only [dc_let, hζ]
      rw [hζ1 55 17 (by decide), b6]
    · exact g2.1.other (fun j hj => (hcl 1 j (by decide)).trans (hδ1 1 j (by omega))) (fun c j h1 h2 => (hcl (1 + c) j (by omega)).trans (hδ1 (1 + c) j (by omega)))
    · exact ⟨(hcl 12 0 (by decide)).trans hδ0, fun i hi => absurd hi (Nat.not_lt_zero i)⟩
    · exact a2.2.2.1.other ((hcl 7 0 (by decide)).trans ((hδ1 7 0 (by decide)).trans (g3.1 7 0 (by decide)))) (fun c i h1 h2 => (hcl (7 + c) i (by omega)).trans ((hδ1 (7 + c) i (by omega)).trans (g3.1 (7 + c) i (by omega))))
    · exact a2.2.2.2.1.other (fun c j h1 h2 => (hcl c j (by omega)).trans ((hδ1 c j (by omega)).trans (g3.1 c j (by omega))))
    · exact a2.2.2.2.2.other (fun c j h1 h2 => (hcl c j (by omega)).trans ((hδ1 c j (by omega)).trans (g3.1 c j (by omega))))
    · exact b3.1.1.other (fun j hj => hζ1 55 j (by omega)) (fun c j h1 h2 => hζ1 c j (by omega))
    · exact ⟨hζ0, fun i hi => absurd hi (Nat.not_lt_zero i)⟩
    · exact hmδ.2.2.1.other (hml 55 11 (by unfold Um; omega) (by decide) (by decide)) (fun c i h1 h2 => hml c i (by unfold Um; omega) (by omega) (by omega))
    · exact hmδ.2.2.2.1.other ho.2.2.2.1 (hml 76 0 (by unfold Um; omega) (by decide) (by decide)) (fun j _ _ => hml 75 j (by unfold Um; omega) (by decide) (by omega))
    · exact hmδ.2.2.2.2.other ho.2.2.2.2 (hml 76 1 (by unfold Um; omega) (by decide) (by decide)) (fun j _ _ => hml 75 j (by unfold Um; omega) (by decide) (by omega))
