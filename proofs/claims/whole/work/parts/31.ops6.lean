/-! piece: what it writes -/
def qwr (V : pV) (p n ba py : Nat) : pV := (pth V, pho V, psa V, pev V, pvo V, pde V, pu (pnd V) p (fun v => qdg n (3 - v)), pu (pba V) p ba, pu (ppy V) p py)
theorem qwr_ok {V : pV} (ho : pOk V) {p n ba py : Nat} (hn : qnds n) (hb : ba ≤ 60) (hp : py ≤ 9) : pOk (qwr V p n ba py) := by
  obtain ⟨h0, h1, h2, h3, h4, h5, h6⟩ := ho
  refine ⟨h0, h1, h2, fun q hq v hv => ?_, fun q hq => ?_, fun q hq => ?_, h6⟩
  · show pu (pnd V) p (fun v => qdg n (3 - v)) q v ≤ 3
    unfold pu; split
    · obtain ⟨z0, z1, z2, z3⟩ := hn
      rcases (show v = 0 ∨ v = 1 ∨ v = 2 ∨ v = 3 by omega) with rfl | rfl | rfl | rfl
      · exact z3
      · exact z2
      · exact z1
      · exact z0
    · exact h3 q hq v hv
  · show pu (pba V) p ba q ≤ 60
    unfold pu; split
    · exact hb
    · exact h4 q hq
  · show pu (ppy V) p py q ≤ 9
    unfold pu; split
    · exact hp
    · exact h5 q hq
theorem pc_write {σ : dc_HP} {V : pV} (h : pC σ 1 V) {p n ba py : Nat} (hp : p < 6) (hn : n ≤ 9999) : ∃ τ, fn_X0_write σ 1 (nI p) (nI n) (nI ba) (nI py) = some τ ∧ pC τ 1 (qwr V p n ba py) ∧ pF 4 6 σ τ := by
  obtain ⟨h0, h1, h2, h3, h4, h5, h6, h7, h8⟩ := h
  have st : ∀ i m (τ : dc_HP), i < 4 → fn_X0_write_L12 1 (nI p) (nI n) (nI ba) (nI py) (m + 1) (nI i) τ = fn_X0_write_L12 1 (nI p) (nI n) (nI ba) (nI py) m (nI (i + 1)) (dc_wI τ 4 (p * 4 + i) (nI (qdg n (3 - i)))) := by
    intro i m τ hi
    rw [fn_X0_write_L12, if_neg (nI_ge hi (by decide)), pk_sub (by omega), px_digit (by omega) (by omega), Option.bind_some, pk_mul, nI_add, px_gg (by omega) (by decide), nI_clamp (by omega), nI_add]
    rfl
  have en : ∀ m (τ : dc_HP), fn_X0_write_L12 1 (nI p) (nI n) (nI ba) (nI py) (m + 1) (nI 4) τ = some τ := by
    intro m τ
    rw [fn_X0_write_L12, if_pos (nI_le (Nat.le_refl _) (by decide))]
  unfold fn_X0_write
  rw [px_withinN (by omega) (by decide) (by decide), if_pos (show 0 ≤ p ∧ p ≤ 5 by omega), Option.bind_some, if_neg (by decide), show (200 : Nat) = 199 + 1 from rfl, st 0 199 _ (by decide), show (199 : Nat) = 198 + 1 from rfl, st 1 198 _ (by decide), show (198 : Nat) = 197 + 1 from rfl, st 2 197 _ (by decide), show (197 : Nat) = 196 + 1 from rfl, st 3 196 _ (by decide), show (196 : Nat) = 195 + 1 from rfl, en 195, Option.bind_some, px_gg hp (by decide)]
  simp only [dc_let]
  rw [px_gg hp (by decide), nI_clamp (by omega)]
  refine ⟨_, rfl, ⟨?_, ?_, ?_, ?_, fun j hj => ?_, fun j hj => ?_, fun q hq w hw => ?_, fun q hq => ?_, fun q hq => ?_⟩, ⟨fun c j hc => ?_, rfl⟩⟩
  · simpa [dc_wI, qwr, pth, pho, psa, pev, pvo, pde, pnd, pba, ppy] using h0
  · simpa [dc_wI, qwr, pth, pho, psa, pev, pvo, pde, pnd, pba, ppy] using h1
  · simpa [dc_wI, qwr, pth, pho, psa, pev, pvo, pde, pnd, pba, ppy] using h2
  · simpa [dc_wI, qwr, pth, pho, psa, pev, pvo, pde, pnd, pba, ppy] using h3
  · simpa [dc_wI, qwr, pth, pho, psa, pev, pvo, pde, pnd, pba, ppy] using h4 j hj
  · simpa [dc_wI, qwr, pth, pho, psa, pev, pvo, pde, pnd, pba, ppy] using h5 j hj
  · show _ = nI (pu (pnd V) p (fun v => qdg n (3 - v)) q w)
    by_cases e : q = p
    · subst e
      rw [pu_s]
      rcases (show w = 0 ∨ w = 1 ∨ w = 2 ∨ w = 3 by omega) with rfl | rfl | rfl | rfl <;> simp [dc_wI]
    · rw [pu_n _ _ e]
      have n0 : q * 4 + w ≠ p * 4 := by omega
      have n1 : q * 4 + w ≠ p * 4 + 1 := by omega
      have n2 : q * 4 + w ≠ p * 4 + 2 := by omega
      have n3 : q * 4 + w ≠ p * 4 + 3 := by omega
      have := h6 q hq w hw
      simp only [dc_wI]
      simpa [n0, n1, n2, n3] using this
  · show _ = nI (pu (pba V) p ba q)
    by_cases e : q = p
    · subst e; rw [pu_s]; simp [dc_wI]
    · rw [pu_n _ _ e]; have := h7 q hq; simpa [dc_wI, e] using this
  · show _ = nI (pu (ppy V) p py q)
    by_cases e : q = p
    · subst e; rw [pu_s]; simp [dc_wI]
    · rw [pu_n _ _ e]; have := h8 q hq; simpa [dc_wI, e] using this
  · have c4 : c ≠ 4 := by omega
    have c5 : c ≠ 5 := by omega
    have c6 : c ≠ 6 := by omega
    simp [dc_wI, c4, c5, c6]
def W5x (c _ : Nat) : Prop := c = 58 ∨ c = 59 ∨ c = 60
def W58 (c _ : Nat) : Prop := c = 58
/-- the state behind the reference's piece -/
theorem pm_write {σ : dc_HP} {V : pV} (h : pM σ V) {p n ba py : Nat} (hp : p < 6) (hn : n ≤ 9999) (x : Int32) : ∃ τ, fn_X9_piece_L63 (nI p) (nI ba) (nI py) x 200 (nI n) (nI 3) σ = some τ ∧ pM (dc_wI (dc_wI τ 59 p (nI ba)) 60 p (nI py)) (qwr V p n ba py) ∧ pW W58 σ τ := by
  obtain ⟨hm, sm, h0, h1, h2, h3, h4, h5, h6, h7⟩ := h
  have st : ∀ i m a (τ : dc_HP), i < 4 → a ≤ 9999 → fn_X9_piece_L63 (nI p) (nI ba) (nI py) x (m + 1) (nI a) (nI i) τ = fn_X9_piece_L63 (nI p) (nI ba) (nI py) x m (nI (a / 10)) (nI i + (-1 : Int32)) (dc_wI τ 58 (4 * p + i) (nI (a % 10))) := by
    intro i m a τ hi ha
    rw [fn_X9_piece_L63, if_neg (nI_pos (by omega)), pk_mul, nI_add, px_gg (by omega) (by decide), nI_clamp (by omega), px_rem10 (by omega), px_div10 (by omega)]
    rfl
  have en : ∀ m a (τ : dc_HP), fn_X9_piece_L63 (nI p) (nI ba) (nI py) x (m + 1) a (nI 0 + (-1 : Int32)) τ = some τ := by
    intro m a τ
    rw [fn_X9_piece_L63, if_pos (by decide)]
  rw [show (200 : Nat) = 199 + 1 from rfl, st 3 199 n _ (by decide) hn, show nI 3 + (-1 : Int32) = nI 2 by decide, show (199 : Nat) = 198 + 1 from rfl, st 2 198 (n / 10) _ (by decide) (by omega), show nI 2 + (-1 : Int32) = nI 1 by decide, show (198 : Nat) = 197 + 1 from rfl, st 1 197 (n / 10 / 10) _ (by decide) (by omega), show nI 1 + (-1 : Int32) = nI 0 by decide, show (197 : Nat) = 196 + 1 from rfl, st 0 196 (n / 10 / 10 / 10) _ (by decide) (by omega), show (196 : Nat) = 195 + 1 from rfl, en 195]
  have d0 : qdg n 0 = n % 10 := by unfold qdg; omega
  have d1 : qdg n 1 = n / 10 % 10 := by unfold qdg; omega
  have d2 : qdg n 2 = n / 10 / 10 % 10 := by unfold qdg; omega
  have d3 : qdg n 3 = n / 10 / 10 / 10 % 10 := by unfold qdg; omega
  refine ⟨_, rfl, ⟨hm, sm, ?_, ?_, ?_, ?_, fun j hj ht => ?_, fun q hq w hw => ?_, fun q hq => ?_, fun q hq => ?_⟩, (((pW.rf.w (show W58 58 _ from rfl)).w (show W58 58 _ from rfl)).w (show W58 58 _ from rfl)).w (show W58 58 _ from rfl)⟩
  · simpa [dc_wI, qwr, pth, pho, psa, pev, pvo, pde, pnd, pba, ppy] using h0
  · simpa [dc_wI] using h1
  · simpa [dc_wI] using h2
  · simpa [dc_wI, qwr, pth, pho, psa, pev, pvo, pde, pnd, pba, ppy] using h3
  · simpa [dc_wI, qwr, pth, pho, psa, pev, pvo, pde, pnd, pba, ppy] using h4 j hj ht
  · show _ = nI (pu (pnd V) p (fun v => qdg n (3 - v)) q w)
    by_cases e : q = p
    · subst e
      rw [pu_s]
      rcases (show w = 0 ∨ w = 1 ∨ w = 2 ∨ w = 3 by omega) with rfl | rfl | rfl | rfl <;> simp [dc_wI, d0, d1, d2, d3]
    · rw [pu_n _ _ e]
      have n0 : 4 * q + w ≠ 4 * p := by omega
      have n1 : 4 * q + w ≠ 4 * p + 1 := by omega
      have n2 : 4 * q + w ≠ 4 * p + 2 := by omega
      have n3 : 4 * q + w ≠ 4 * p + 3 := by omega
      have := h5 q hq w hw
      simp only [dc_wI]
      simpa [n0, n1, n2, n3] using this
  · show _ = nI (pu (pba V) p ba q)
    by_cases e : q = p
    · subst e; rw [pu_s]; simp [dc_wI]
    · rw [pu_n _ _ e]; have := h6 q hq; simpa [dc_wI, e] using this
  · show _ = nI (pu (ppy V) p py q)
    by_cases e : q = p
    · subst e; rw [pu_s]; simp [dc_wI]
    · rw [pu_n _ _ e]; have := h7 q hq; simpa [dc_wI, e] using this
theorem op_piece (x y z u : Int32) : pOp (fun σ => fn_X8_piece σ x y z u) (fun σ => fn_X9_piece σ x y z u) := by
  intro σ hR
  have hR' := hR
  obtain ⟨G, ho, hc, hm⟩ := hR
  have n1 : ¬ nI 1 = 0 := by decide
  by_cases hx : pr x 0 5
  · have ex := (px_within (x := x) (lo := 0) (hi := 5) (by decide) (by decide)).1 hx
    have fx := (px_in (x := x) (lo := 0) (hi := 5) (L := 0) (H := 5) (by decide) (by decide)).1 hx
    by_cases hy : ∃ n, y = nI n ∧ n ≤ 9999 ∧ qnds n
    · obtain ⟨n, rfl, hn, hq⟩ := hy
      have ey := (px_needs (x := nI n)).1 n rfl hn hq
      have fy := (pm_needs (x := nI n)).1 n rfl hn hq
      by_cases hz : pr z 0 60
      · have ez := (px_within (x := z) (lo := 0) (hi := 60) (by decide) (by decide)).1 hz
        have fz := (px_in (x := z) (lo := 0) (hi := 60) (L := 0) (H := 60) (by decide) (by decide)).1 hz
        by_cases hu : pr u 0 9
        · have eu := (px_within (x := u) (lo := 0) (hi := 9) (by decide) (by decide)).1 hu
          have fu := (px_in (x := u) (lo := 0) (hi := 9) (L := 0) (H := 9) (by decide) (by decide)).1 hu
          obtain ⟨p, hp, rfl⟩ := pr_of (by decide) hx
          obtain ⟨ba, hb, rfl⟩ := pr_of (by decide) hz
          obtain ⟨py, hpy, rfl⟩ := pr_of (by decide) hu
          have hp6 : p < 6 := by omega
          obtain ⟨α, a1, a2, a3⟩ := pc_write hc.1 (ba := ba) (py := py) hp6 hn
          have hmα : pML α G := hm.c ho a3 (by decide)
          have e59 : α.1 59 p = nI (pba G.1 p) := by
            obtain ⟨_, _, _, _, _, _, _, _, h6, _⟩ := hmα.1
            exact h6 p hp6
          obtain ⟨β, b1, b2, b3⟩ := pm_write hmα.1 (ba := ba) (py := py) hp6 hn (nI (pba G.1 p))
          generalize hγ : dc_wI (dc_wI β 59 p (nI ba)) 60 p (nI py) = γ at b2
          have w : pW W5x α γ := by
            rw [← hγ]
            exact ((b3.mono (W' := W5x) (fun c _ (q : c = 58) => Or.inl q)).w (show W5x 59 _ from Or.inr (Or.inl rfl))).w (show W5x 60 _ from Or.inr (Or.inr rfl))
          refine ⟨nI (pba G.1 p), α, γ, ?_, ?_, (qwr G.1 p n ba py, G.2), ⟨qwr_ok ho.1 hq hb hpy, ho.2⟩, hc.choir _ (fun c j q q2 => (w.1 c j (by unfold Uc at q; unfold W5x; omega)).trans (a3.1 c j (by omega))) (a2.other (fun j _ => w.1 1 j (by unfold W5x; omega)) (fun c j c1 c2 => w.1 (1 + c) j (by unfold W5x; omega))), hmα.choir ho _ (fun c j q q2 => w.1 c j (by unfold W5x; omega)) b2⟩
          · simp only [fn_X8_piece, ex, ey, ez, eu, Option.bind_some, n1, if_false, pc_barsOf hc.1 hp6, a1]
          · simp only [fn_X9_piece, fx, fy, fz, fu, Option.bind_some, n1, if_false, nI_clamp (show p < 2 ^ 31 by omega), px_gj hp6 (show 6 < 2 ^ 31 by decide), e59, b1, dc_let, hγ]
        · refine ⟨(-2 : Int32), σ, σ, ?_, ?_, hR'⟩
          · simp only [fn_X8_piece, ex, ey, ez, (px_within (x := u) (lo := 0) (hi := 9) (by decide) (by decide)).2 hu, Option.bind_some, n1, if_false]
            rw [if_pos nI_0]
          · simp only [fn_X9_piece, fx, fy, fz, (px_in (x := u) (lo := 0) (hi := 9) (L := 0) (H := 9) (by decide) (by decide)).2 hu, Option.bind_some, n1, if_false]
            rw [if_pos nI_0]
      · refine ⟨(-2 : Int32), σ, σ, ?_, ?_, hR'⟩
        · simp only [fn_X8_piece, ex, ey, (px_within (x := z) (lo := 0) (hi := 60) (by decide) (by decide)).2 hz, Option.bind_some, n1, if_false]
          rw [if_pos nI_0]
        · simp only [fn_X9_piece, fx, fy, (px_in (x := z) (lo := 0) (hi := 60) (L := 0) (H := 60) (by decide) (by decide)).2 hz, Option.bind_some, n1, if_false]
          rw [if_pos nI_0]
    · have hy' : ¬ pr y 0 9999 ∨ ∃ n, y = nI n ∧ n ≤ 9999 ∧ ¬ qnds n := by
        by_cases c : pr y 0 9999
        · obtain ⟨n, hn, rfl⟩ := pr_of (by decide) c
          exact Or.inr ⟨n, rfl, hn, fun q => hy ⟨n, rfl, hn, q⟩⟩
        · exact Or.inl c
      refine ⟨(-2 : Int32), σ, σ, ?_, ?_, hR'⟩
      · simp only [fn_X8_piece, ex, px_needs.2 hy', Option.bind_some, n1, if_false]
        rw [if_pos nI_0]
      · simp only [fn_X9_piece, fx, pm_needs.2 hy', Option.bind_some, n1, if_false]
        rw [if_pos nI_0]
  · refine ⟨(-1 : Int32), σ, σ, ?_, ?_, hR'⟩
    · simp only [fn_X8_piece, (px_within (x := x) (lo := 0) (hi := 5) (by decide) (by decide)).2 hx, Option.bind_some]
      rw [if_pos nI_0]
    · simp only [fn_X9_piece, (px_in (x := x) (lo := 0) (hi := 5) (L := 0) (H := 5) (by decide) (by decide)).2 hx, Option.bind_some]
      rw [if_pos nI_0]
