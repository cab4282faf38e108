/-! rings: the answers -/
theorem pl_rgd {σ : dc_HP} {N : Nat → Nat} (h : pRm σ N) (hN : ∀ k, k < 4 → qrk (N k)) {L : Nat → Bool} : ∀ d i m, i + d = 4 → d < m → fn_X9_ringed_L4 σ (nI (pm L 4)) m (nI (pm (fun j => decide (j < i) && qrg L (qpts L N) j) 4)) (nI i) = some (nI (pm (qrg L (qpts L N)) 4)) := by
  intro d
  induction d with
  | zero =>
    intro i m hi hm
    obtain ⟨m, rfl⟩ : ∃ q, m = q + 1 := ⟨m - 1, by omega⟩
    obtain rfl : i = 4 := by omega
    rw [fn_X9_ringed_L4, if_pos (nI_le (Nat.le_refl _) (by decide)), pm_all]
  | succ d ih =>
    intro i m hi hm
    obtain ⟨m, rfl⟩ : ∃ q, m = q + 1 := ⟨m - 1, by omega⟩
    have hi4 : i < 4 := by omega
    have g := ih (i + 1) m (by omega) (by omega)
    rw [fn_X9_ringed_L4, if_neg (nI_ge hi4 (by decide)), nI_add]
    cases c : L i with
    | false =>
      have z : fn_X9_ringed_L18 σ (nI (pm L 4)) (nI (pm (fun j => decide (j < i) && qrg L (qpts L N) j) 4)) (nI i) 200 (nI i) (nI 0) (nI 0) = some (nI 0) := by
        rw [show (200 : Nat) = 199 + 1 from rfl, fn_X9_ringed_L18, if_neg (by decide), px_pmbit _ (by decide) hi4, c, if_neg (by decide)]
      rw [z, Option.bind_some, if_pos nI_0, px_or, Nat.or_zero, pm_acc0 (g := qrg L (qpts L N)) (by unfold qrg; rw [c]; rfl)]
      exact g
    | true =>
      have z := pl_r18 (x := nI (pm (fun j => decide (j < i) && qrg L (qpts L N) j) 4)) h hN hi4 c 4 0 i 200 false rfl hi4 (by decide)
      rw [show nI (if (false : Bool) = true then 1 else 0) = nI 0 from rfl, Bool.false_or] at z
      rw [z, Option.bind_some]
      cases c2 : qwk (qpts L N) i 4 i with
      | false =>
        rw [if_pos (by decide), px_or, Nat.or_zero, pm_acc0 (g := qrg L (qpts L N)) (by unfold qrg; rw [c, c2]; rfl)]
        exact g
      | true =>
        rw [if_neg (by decide), px_set _ (by decide) hi4, pm_acc1 (g := qrg L (qpts L N)) (by unfold qrg; rw [c, c2]; rfl)]
        exact g
theorem pm_rgd {σ : dc_HP} {N : Nat → Nat} (h : pRm σ N) (hN : ∀ k, k < 4 → qrk (N k)) {L : Nat → Bool} : fn_X9_ringed σ (nI (pm L 4)) = some (nI (pm (qrg L (qpts L N)) 4)) := by
  unfold fn_X9_ringed
  have e := pl_rgd h hN (L := L) 4 0 200 rfl (by decide)
  rw [pm_none] at e
  rw [e, Option.bind_some]
def W71 (c _j : Nat) : Prop := c = 71
theorem pRm.o {σ τ : dc_HP} {N : Nat → Nat} (h : pRm σ N) (g : pW W71 σ τ) : pRm τ N := fun k hk j hj => (g.1 70 _ (by unfold W71; decide)).trans (h k hk j hj)
theorem pl_deal {N : Nat → Nat} (hN : ∀ k, k < 4 → qrk (N k)) {L : Nat → Bool} : ∀ d i m σ, pRm σ N → i + d = 4 → d < m → ∃ τ, fn_X9_deal_L15 (nI (pm L 4)) (nI (pm (qrg L (qpts L N)) 4)) m (nI i) σ = some τ ∧ pW W71 σ τ ∧ ∀ k, k < 4 → τ.1 71 k = if i ≤ k ∧ qrg L (qpts L N) k = true then nI (qpts L N k) else σ.1 71 k := by
  intro d
  induction d with
  | zero =>
    intro i m σ h hi hm
    obtain ⟨m, rfl⟩ : ∃ q, m = q + 1 := ⟨m - 1, by omega⟩
    obtain rfl : i = 4 := by omega
    rw [fn_X9_deal_L15, if_pos (nI_le (Nat.le_refl _) (by decide))]
    exact ⟨σ, rfl, pW.rf, fun k hk => (if_neg (by omega)).symm⟩
  | succ d ih =>
    intro i m σ h hi hm
    obtain ⟨m, rfl⟩ : ∃ q, m = q + 1 := ⟨m - 1, by omega⟩
    have hi4 : i < 4 := by omega
    have st : fn_X9_deal_L15 (nI (pm L 4)) (nI (pm (qrg L (qpts L N)) 4)) (m + 1) (nI i) σ = fn_X9_deal_L15 (nI (pm L 4)) (nI (pm (qrg L (qpts L N)) 4)) m (nI (i + 1)) (dc_wI σ 71 i (if qrg L (qpts L N) i = true then nI (qpts L N i) else σ.1 71 i)) := by
      rw [fn_X9_deal_L15, if_neg (nI_ge hi4 (by decide)), px_pmbit _ (by decide) hi4, nI_add, px_gg hi4 (by decide), px_gg hi4 (by decide), nI_clamp (by omega)]
      cases c : qrg L (qpts L N) i with
      | false => rw [if_neg (by decide), if_neg (by decide)]; rfl
      | true =>
        have hL : L i = true := by unfold qrg at c; simp at c; exact c.1
        rw [if_pos (by decide), pm_pt h hN hi4 hL hi4, Option.bind_some, if_pos rfl, px_gi hi4 (by decide)]
        rfl
    rw [st]
    generalize hα : dc_wI σ 71 i (if qrg L (qpts L N) i = true then nI (qpts L N i) else σ.1 71 i) = α
    have fr : pW W71 σ α := by rw [← hα]; exact pW.rf.w rfl
    obtain ⟨τ, e, f, g⟩ := ih (i + 1) m α (h.o fr) (by omega) (by omega)
    refine ⟨τ, e, fr.tr f, fun k hk => ?_⟩
    rw [g k hk]
    by_cases q : k = i
    · rw [if_neg (by omega), q, ← hα, px_ws]
      by_cases c : qrg L (qpts L N) i = true
      · rw [if_pos c, if_pos ⟨Nat.le_refl _, c⟩]
      · rw [if_neg c, if_neg (fun y => c y.2)]
    · by_cases q2 : i + 1 ≤ k ∧ qrg L (qpts L N) k = true
      · rw [if_pos q2, if_pos ⟨by omega, q2.2⟩]
      · rw [if_neg q2, if_neg (fun y => q2 ⟨by omega, y.2⟩), ← hα, px_wn (by omega)]
theorem pl_dealt {N : Nat → Nat} (hN : ∀ k, k < 4 → qrk (N k)) : ∀ c n σ (x : qLP), pRm σ N → pc x.1 4 ≤ c → c < n → (∀ k, k < 4 → x.1 k = false → σ.1 71 k = nI (x.2 k)) → ∃ τ, fn_X9_deal_L3 n (nI (pm x.1 4)) σ = some τ ∧ pW W71 σ τ ∧ ∀ k, k < 4 → τ.1 71 k = nI ((qri N c x).2 k) := by
  intro c
  induction c with
  | zero =>
    intro n σ x h hc hn hp
    obtain ⟨n, rfl⟩ : ∃ q, n = q + 1 := ⟨n - 1, by omega⟩
    have hz := pc_no (Nat.le_zero.mp hc)
    rw [fn_X9_deal_L3, if_pos ((px_p0 x.1 (by decide)).mpr hz)]
    exact ⟨σ, rfl, pW.rf, fun k hk => hp k hk (hz k hk)⟩
  | succ c ih =>
    intro n σ x h hc hn hp
    obtain ⟨n, rfl⟩ : ∃ q, n = q + 1 := ⟨n - 1, by omega⟩
    by_cases z : ∃ p, p < 4 ∧ x.1 p = true
    · obtain ⟨p, hp4, hL⟩ := z
      have hz : ¬ nI (pm x.1 4) = 0 := fun q => by
        have := (px_p0 x.1 (by decide)).mp q p hp4
        rw [hL] at this
        cases this
      have hl := qrs_less hN hp4 hL
      obtain ⟨α, a1, a2, a3⟩ := pl_deal hN (L := x.1) 4 0 200 σ h rfl (by decide)
      obtain ⟨τ, e, f, g⟩ := ih n α (qrs N x) (h.o a2) (by omega) (by omega) (fun k hk hz => by
        rw [a3 k hk]
        show _ = nI (if qrg x.1 (qpts x.1 N) k = true then qpts x.1 N k else x.2 k)
        by_cases c : qrg x.1 (qpts x.1 N) k = true
        · rw [if_pos ⟨Nat.zero_le _, c⟩, if_pos c]
        · rw [if_neg (fun q => c q.2), if_neg c]
          refine hp k hk ?_
          have hz : (x.1 k && !qrg x.1 (qpts x.1 N) k) = false := hz
          cases q : x.1 k with
          | false => rfl
          | true =>
            rw [q, Bool.true_and] at hz
            exact absurd (by simpa using hz) c)
      rw [fn_X9_deal_L3, if_neg hz, pm_rgd h hN, Option.bind_some, a1, Option.bind_some, px_pdiff _ _ (by decide)]
      exact ⟨τ, e, a2.tr f, g⟩
    · have hz : ∀ k, k < 4 → x.1 k = false := by
        intro k hk
        cases e : x.1 k with
        | false => rfl
        | true => exact absurd ⟨k, hk, e⟩ z
      rw [fn_X9_deal_L3, if_pos ((px_p0 x.1 (by decide)).mpr hz)]
      exact ⟨σ, rfl, pW.rf, fun k hk => by rw [(qri_no (c + 1) x (hz k hk)).2]; exact hp k hk (hz k hk)⟩
def qdd (P : Nat → Nat) : Nat := 10 * (10 * (10 * (10 * 0 + P 0) + P 1) + P 2) + P 3
def qow (P : Nat → Nat) : Nat := (((0 + if P 0 = 0 then 1 else 0) + if P 1 = 1 then 1 else 0) + if P 2 = 2 then 1 else 0) + if P 3 = 3 then 1 else 0
theorem pc_digits {σ : dc_HP} {P : Nat → Nat} (h : ∀ k, k < 4 → σ.1 26 k = nI (P k)) : fn_X5_partsAsDigits σ = some (nI (qdd P)) := by
  have st : ∀ i m a, i < 4 → fn_X5_partsAsDigits_L4 σ (m + 1) (nI a) (nI i) = fn_X5_partsAsDigits_L4 σ m (nI (10 * a + P i)) (nI (i + 1)) := by
    intro i m a hi
    rw [fn_X5_partsAsDigits_L4, if_neg (nI_ge hi (by decide)), px_gg hi (by decide), nI_clamp (by omega), h i hi, pk_mul, nI_add, nI_add]
  unfold fn_X5_partsAsDigits
  rw [show (200 : Nat) = 199 + 1 from rfl, st 0 199 0 (by decide), show (199 : Nat) = 198 + 1 from rfl, st 1 198 _ (by decide), show (198 : Nat) = 197 + 1 from rfl, st 2 197 _ (by decide), show (197 : Nat) = 196 + 1 from rfl, st 3 196 _ (by decide), show (196 : Nat) = 195 + 1 from rfl, fn_X5_partsAsDigits_L4, if_pos (by decide), Option.bind_some]
  rfl
theorem pc_own {σ : dc_HP} {P : Nat → Nat} (h : ∀ k, k < 4 → σ.1 26 k = nI (P k)) (hP : ∀ k, k < 4 → P k < 4) : fn_X5_countOwn σ = some (nI (qow P)) := by
  have st : ∀ i m a, i < 4 → fn_X5_countOwn_L4 σ (m + 1) (nI a) (nI i) = fn_X5_countOwn_L4 σ m (nI (a + if P i = i then 1 else 0)) (nI (i + 1)) := by
    intro i m a hi
    have := hP i hi
    rw [fn_X5_countOwn_L4, if_neg (nI_ge hi (by decide)), px_gg hi (by decide), nI_clamp (by omega), h i hi, nI_add, nI_add]
    by_cases c : P i = i
    · rw [if_pos (by rw [c]), if_pos c]
    · rw [if_neg (fun q => c ((nI_eq (by omega) (by omega)).mp q)), if_neg c]; rfl
  unfold fn_X5_countOwn
  rw [show (200 : Nat) = 199 + 1 from rfl, st 0 199 0 (by decide), show (199 : Nat) = 198 + 1 from rfl, st 1 198 _ (by decide), show (198 : Nat) = 197 + 1 from rfl, st 2 197 _ (by decide), show (197 : Nat) = 196 + 1 from rfl, st 3 196 _ (by decide), show (196 : Nat) = 195 + 1 from rfl, fn_X5_countOwn_L4, if_pos (by decide), Option.bind_some]
  rfl
theorem pm_r76 {σ : dc_HP} {P : Nat → Nat} (h : ∀ k, k < 4 → σ.1 71 k = nI (P k)) (hP : ∀ k, k < 4 → P k < 4) (x : Int32) : fn_X9_rings_L76 σ x 200 (nI 0) (nI 0) (nI 0) = some (nI (qow P), nI (qdd P)) := by
  have st : ∀ i m a b, i < 4 → fn_X9_rings_L76 σ x (m + 1) (nI a) (nI b) (nI i) = fn_X9_rings_L76 σ x m (nI (a + if P i = i then 1 else 0)) (nI (10 * b + P i)) (nI (i + 1)) := by
    intro i m a b hi
    have := hP i hi
    rw [fn_X9_rings_L76, if_neg (nI_ge hi (by decide)), px_gg hi (by decide), nI_clamp (by omega), h i hi]
    by_cases c : P i = i
    · rw [if_pos (by rw [c]), if_pos c, Option.bind_some, px_gi hi (by decide), pk_mul, nI_add, nI_add, nI_add]
    · rw [if_neg (fun q => c ((nI_eq (by omega) (by omega)).mp q)), if_neg c, Option.bind_some, px_gi hi (by decide), pk_mul, nI_add, nI_add, nI_add]
  rw [show (200 : Nat) = 199 + 1 from rfl, st 0 199 0 0 (by decide), show (199 : Nat) = 198 + 1 from rfl, st 1 198 _ _ (by decide), show (198 : Nat) = 197 + 1 from rfl, st 2 197 _ _ (by decide), show (197 : Nat) = 196 + 1 from rfl, st 3 196 _ _ (by decide), show (196 : Nat) = 195 + 1 from rfl, fn_X9_rings_L76, if_pos (by decide)]
  rfl
theorem qri_4 {N : Nat → Nat} (hN : ∀ k, k < 4 → qrk (N k)) : ∀ d x, (∀ k, k < 4 → x.2 k < 4) → ∀ k, k < 4 → (qri N d x).2 k < 4 := by
  intro d
  induction d with
  | zero => intro x h; exact h
  | succ d ih =>
    intro x h
    refine ih (qrs N x) (fun k hk => ?_)
    show (if qrg x.1 (qpts x.1 N) k = true then qpts x.1 N k else x.2 k) < 4
    split
    · rename_i c
      have hL : x.1 k = true := by unfold qrg at c; simp at c; exact c.1
      exact (qpts_in hN hk hL hk).2.2
    · exact h k hk
theorem px_rk (x : Int32) : (∃ n, n ≤ 9999 ∧ x = nI n ∧ qrk n ∧ fn_X8_areRanks x = some (nI 1) ∧ ∀ σ k, k < 4 → ∃ τ, fn_X9_areRanks σ (nI k) x = some (nI 1, τ) ∧ pW W70 σ τ ∧ (∀ j, (j < 4 * k ∨ 4 * k + 4 ≤ j) → τ.1 70 j = σ.1 70 j) ∧ ∀ j, j < 4 → τ.1 70 (4 * k + j) = nI (qdg n (3 - j))) ∨ (fn_X8_areRanks x = some (nI 0) ∧ ∀ σ k, k < 4 → ∃ τ, fn_X9_areRanks σ (nI k) x = some (nI 0, τ) ∧ pW W70 σ τ) := by
  by_cases h : pr x 0 9999
  · obtain ⟨n, hn, e⟩ := pr_of (by decide) h
    have a := pc_ranks.1 n e hn
    by_cases c : qmk (qdg n 0) (qdg n 1) (qdg n 2) (qdg n 3) = 15
    · refine Or.inl ⟨n, hn, e, qgood_rk hn c, ?_, fun σ k hk => ?_⟩
      · rw [a, if_pos c]
      · obtain ⟨r, τ, e1, e2, e3, e4, e5⟩ := pm_ranks hk x (σ := σ)
        obtain ⟨f1, f2⟩ := e5 n e hn
        rw [if_pos c] at f1
        exact ⟨τ, by rw [e1, f1], e2, e3, f2⟩
    · refine Or.inr ⟨?_, fun σ k hk => ?_⟩
      · rw [a, if_neg c]
      · obtain ⟨r, τ, e1, e2, e3, e4, e5⟩ := pm_ranks hk x (σ := σ)
        obtain ⟨f1, f2⟩ := e5 n e hn
        rw [if_neg c] at f1
        exact ⟨τ, by rw [e1, f1], e2⟩
  · refine Or.inr ⟨pc_ranks.2 h, fun σ k hk => ?_⟩
    obtain ⟨r, τ, e1, e2, e3, e4, e5⟩ := pm_ranks hk x (σ := σ)
    exact ⟨τ, by rw [e1, e4 h], e2⟩
theorem op_rings (x1 x2 x3 x4 x5 : Int32) : pOp (fun σ => fn_X8_rings σ x1 x2 x3 x4 x5) (fun σ => fn_X9_rings σ x1 x2 x3 x4 x5) := by
  intro σ hR
  obtain ⟨G, ho, hc, hm⟩ := id hR
  have n1 : ¬ nI 1 = 0 := by decide
  have z0 : nI 0 = 0 := nI_0
  have back : ∀ τ, pW W70 σ τ → pRL τ := fun τ w => ⟨G, ho, hc.m w (fun c j w => by unfold W70 at w; omega), hm.other ho (fun c j u => w.1 c j (by unfold Um at u; unfold W70; omega))⟩
  rcases px_rk x1 with ⟨a, ha, rfl, ka, ca, ra⟩ | ⟨ca, ra⟩
  · obtain ⟨α, a1, a2, a3, a4⟩ := ra σ 0 (by decide)
    rcases px_rk x2 with ⟨b, hb, rfl, kb, cb, rb⟩ | ⟨cb, rb⟩
    · obtain ⟨β, b1, b2, b3, b4⟩ := rb α 1 (by decide)
      rcases px_rk x3 with ⟨c, hc', rfl, kc, cc, rc⟩ | ⟨cc, rc⟩
      · obtain ⟨γ, c1, c2, c3, c4⟩ := rc β 2 (by decide)
        rcases px_rk x4 with ⟨d, hd, rfl, kd, cd, rd⟩ | ⟨cd, rd⟩
        · obtain ⟨δ, d1, d2, d3, d4⟩ := rd γ 3 (by decide)
          by_cases hy : pr x5 0 1
          · have e2 := (px_within (x := x5) (lo := 0) (hi := 1) (by decide) (by decide)).1 hy
            have f2 := (px_in (x := x5) (lo := 0) (hi := 1) (L := 0) (H := 1) (by decide) (by decide)).1 hy
            have hN : ∀ k, k < 4 → qrk (qp4 a b c d k) := by
              intro k hk
              rcases (show k = 0 ∨ k = 1 ∨ k = 2 ∨ k = 3 by omega) with rfl | rfl | rfl | rfl
              · exact ka
              · exact kb
              · exact kc
              · exact kd
            -- the class
            generalize hs : dc_wI (dc_wI (dc_wI (dc_wI (dc_wI σ 25 0 (nI a)) 25 1 (nI b)) 25 2 (nI c)) 25 3 (nI d)) 24 3 (nI 15) = σ1
            have w1 : pF 24 27 σ σ1 := by rw [← hs]; exact ((((pF.rf.w (by decide) (by decide)).w (by decide) (by decide)).w (by decide) (by decide)).w (by decide) (by decide)).w (by decide) (by decide)
            have s1 : fn_X5_start σ (nI a) (nI b) (nI c) (nI d) = some σ1 := by
              rw [← hs]
              unfold fn_X5_start
              simp only [dc_let]
              rw [nI_clamp (by decide), nI_clamp (by decide), nI_clamp (by decide), nI_clamp (by decide)]
            have g1 : pRg σ1 (fun _ => true) (qp4 a b c d) := by
              refine ⟨by rw [← hs, px_ws]; decide, fun k hk => ?_⟩
              rw [← hs]
              rcases (show k = 0 ∨ k = 1 ∨ k = 2 ∨ k = 3 by omega) with rfl | rfl | rfl | rfl
              · rw [px_wn (by decide), px_wn (by decide), px_wn (by decide), px_wn (by decide), px_ws]; rfl
              · rw [px_wn (by decide), px_wn (by decide), px_wn (by decide), px_ws]; rfl
              · rw [px_wn (by decide), px_wn (by decide), px_ws]; rfl
              · rw [px_wn (by decide), px_ws]; rfl
            obtain ⟨τ, t1, t2, t3⟩ := pl_swap hN 4 0 200 σ1 (fun _ => true, fun _ => 0) g1 (fun k _ q => by cases q) rfl (by decide)
            have en := qri_end hN 4 (fun _ => true, fun _ => 0) (by decide)
            have t4 : ∀ k, k < 4 → τ.1 26 k = nI ((qri (qp4 a b c d) 4 (fun _ => true, fun _ => 0)).2 k) := fun k hk => t3 k hk (en k hk)
            have h4 := qri_4 hN 4 (fun _ => true, fun _ => 0) (fun _ _ => by show 0 < 4; decide)
            have t5 : fn_X5_swap σ1 = some τ := by unfold fn_X5_swap; rw [t1, Option.bind_some]
            have fτ : pF 24 27 σ τ := w1.tr t2
            have hcτ := hc.scr fτ (by decide) (by decide)
            have hmτ := hm.c ho fτ (by decide)
            -- the reference
            obtain ⟨α, a1, a2, a3, a4⟩ := ra τ 0 (by decide)
            obtain ⟨β, b1, b2, b3, b4⟩ := rb α 1 (by decide)
            obtain ⟨γ, c1, c2, c3, c4⟩ := rc β 2 (by decide)
            obtain ⟨δ, d1, d2, d3, d4⟩ := rd γ 3 (by decide)
            have gm : pRm δ (qp4 a b c d) := by
              intro k hk j hj
              rcases (show k = 0 ∨ k = 1 ∨ k = 2 ∨ k = 3 by omega) with rfl | rfl | rfl | rfl
              · rw [d3 _ (by omega), c3 _ (by omega), b3 _ (by omega), a4 j hj]; rfl
              · rw [d3 _ (by omega), c3 _ (by omega), b4 j hj]; rfl
              · rw [d3 _ (by omega), c4 j hj]; rfl
              · rw [d4 j hj]; rfl
            obtain ⟨υ, u1, u2, u3⟩ := pl_dealt hN 4 200 δ (fun _ => true, fun _ => 0) gm (by decide) (by decide) (fun k _ q => by cases q)
            have u1' : fn_X9_deal δ = some υ := by
              unfold fn_X9_deal
              rw [show nI 15 = nI (pm (fun _ => true) 4) from by decide, u1, Option.bind_some]
            have wδ : pW W70 τ δ := ((a2.tr b2).tr c2).tr d2
            have hcυ := (hcτ.m wδ (fun c j w => by unfold W70 at w; omega)).m u2 (fun c j w => by unfold W71 at w; omega)
            have hmδ : pML δ G := hmτ.other ho (fun c j u => wδ.1 c j (by unfold Um at u; unfold W70; omega))
            have hmυ : pML υ G := hmδ.other ho (fun c j u => u2.1 c j (by unfold Um at u; unfold W71; omega))
            refine ⟨if x5 = 0 then nI (qdd (qri (qp4 a b c d) 4 (fun _ => true, fun _ => 0)).2) else nI (qow (qri (qp4 a b c d) 4 (fun _ => true, fun _ => 0)).2), τ, υ, ?_, ?_, G, ho, hcυ, hmυ⟩
            · simp only [fn_X8_rings, ca, cb, cc, cd, e2, Option.bind_some, n1, if_false, s1, t5, pc_digits t4, pc_own t4 h4]
              split <;> rfl
            · simp only [fn_X9_rings, a1, b1, c1, d1, f2, Option.bind_some, n1, if_false, u1', pm_r76 u3 h4 x5]
              split <;> rfl
          · refine ⟨(-2 : Int32), σ, δ, ?_, ?_, back _ (((a2.tr b2).tr c2).tr d2)⟩
            · simp only [fn_X8_rings, ca, cb, cc, cd, (px_within (x := x5) (lo := 0) (hi := 1) (by decide) (by decide)).2 hy, Option.bind_some, n1, if_false]
              rw [if_pos z0]
            · simp only [fn_X9_rings, a1, b1, c1, d1, (px_in (x := x5) (lo := 0) (hi := 1) (L := 0) (H := 1) (by decide) (by decide)).2 hy, Option.bind_some, n1, if_false]
              rw [if_pos z0]
        · obtain ⟨δ, d1, d2⟩ := rd γ 3 (by decide)
          refine ⟨(-2 : Int32), σ, δ, ?_, ?_, back _ (((a2.tr b2).tr c2).tr d2)⟩
          · simp only [fn_X8_rings, ca, cb, cc, cd, Option.bind_some, n1, if_false]
            rw [if_pos z0]
          · simp only [fn_X9_rings, a1, b1, c1, d1, Option.bind_some, n1, if_false]
            simp only [z0, if_true, Option.bind_some]
      · obtain ⟨γ, c1, c2⟩ := rc β 2 (by decide)
        refine ⟨(-2 : Int32), σ, γ, ?_, ?_, back _ ((a2.tr b2).tr c2)⟩
        · simp only [fn_X8_rings, ca, cb, cc, Option.bind_some, n1, if_false]
          rw [if_pos z0]
        · simp only [fn_X9_rings, a1, b1, c1, Option.bind_some, n1, if_false]
          simp only [z0, if_true, Option.bind_some]
    · obtain ⟨β, b1, b2⟩ := rb α 1 (by decide)
      refine ⟨(-2 : Int32), σ, β, ?_, ?_, back _ (a2.tr b2)⟩
      · simp only [fn_X8_rings, ca, cb, Option.bind_some, n1, if_false]
        rw [if_pos z0]
      · simp only [fn_X9_rings, a1, b1, Option.bind_some, n1, if_false]
        simp only [z0, if_true, Option.bind_some]
  · obtain ⟨α, a1, a2⟩ := ra σ 0 (by decide)
    refine ⟨(-2 : Int32), σ, α, ?_, ?_, back _ a2⟩
    · simp only [fn_X8_rings, ca, Option.bind_some]
      rw [if_pos z0]
    · simp only [fn_X9_rings, a1, Option.bind_some]
      simp only [z0, if_true, Option.bind_some]
