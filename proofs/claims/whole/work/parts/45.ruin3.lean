/-! ruin: the answer -/
theorem px_c0 : fn_J6_bitCount_0f7a4 (nI 0) = some (nI 0) := by
  have := (px_cnt (fun _ => false)).1
  rwa [show pm (fun _ => false) 8 = 0 from by decide, show pc (fun _ => false) 8 = 0 from by decide] at this
theorem pl_leastN {σ : dc_HP} {b : Nat} (C : Nat → Bool) {x : Int32} (hx : x ≤ nI 0) : ∀ d i n, i + d = 8 → d < n → fn_X0_leastFree_L17 σ b x (nI (pm C 8)) n (nI 0) (nI i) = some (nI 0) := by
  intro d
  induction d with
  | zero =>
    intro i n hi hn
    obtain ⟨m, rfl⟩ : ∃ m, n = m + 1 := ⟨n - 1, by omega⟩
    obtain rfl : i = 8 := by omega
    unfold fn_X0_leastFree_L17
    rw [if_pos (nI_le (Nat.le_refl 8) (by decide))]
  | succ d ih =>
    intro i n hi hn
    obtain ⟨m, rfl⟩ : ∃ m, n = m + 1 := ⟨n - 1, by omega⟩
    unfold fn_X0_leastFree_L17
    rw [if_neg (nI_ge (by omega) (by decide)), fn_X8_bit, px_pmbit _ (by decide) (by omega), Option.bind_some, px_c0, Option.bind_some, if_pos hx, nI_add, ih (i + 1) m (by omega) (by omega)]
    split <;> rfl
theorem qsl_0 (C : Nat → Bool) : pm (qsl C 0) 8 = 0 := by
  rw [pm_congr (g := fun _ => false) (fun k _ => by simp [qsl])]
  decide
theorem pc_least {σ : dc_HP} {b : Nat} {V : pV} (h : pC σ b V) (ho : pOk V) {v w : Nat} (hv : v < 4) (hw : w ≤ 8) {x : Int32} (hx : x = nI w ∨ (x ≤ nI 0 ∧ w = 0)) : fn_X0_leastFree σ b (nI v) x = some (nI (pm (qsl (qfr2 V v) w) 8)) := by
  have em : pm (fun j => qmay V v j && qfree V j) 8 = pm (qfr2 V v) 8 := by
    apply pm_congr
    intro k hk
    unfold qfr2 qfree qmay
    cases pth V k <;> cases pho V k <;> cases psa V k <;> simp
  unfold fn_X0_leastFree
  rw [pc_breath h ho hv, Option.bind_some, pc_free h ho, Option.bind_some, px_pand, em]
  rcases hx with rfl | ⟨hx, rfl⟩
  · have := pl_least (σ := σ) (b := b) (qfr2 V v) hw 8 0 200 rfl (by decide)
    rw [pm_none] at this
    rw [this]
    rfl
  · rw [pl_leastN (σ := σ) (b := b) (qfr2 V v) hx 8 0 200 rfl (by decide), qsl_0]
    rfl
theorem pm_ruined {σ : dc_HP} {V : pV} (h : pM σ V) (ho : pOk V) {v w : Nat} (hv : v < 4) (hw : w ≤ 8) {x : Int32} (hx : x = nI w ∨ (x ≤ nI 0 ∧ w = 0)) : fn_X9_ruined σ (nI v) x = some (if w ≤ qtk (qfr2 V v) w 8 then nI (pm (qsl (qfr2 V v) w) 8) else (-6 : Int32)) := by
  unfold fn_X9_ruined
  have hl := qtk_le (qfr2 V v) w 8
  rcases hx with rfl | ⟨hx, rfl⟩
  · have := pl_mruin h ho hv hw 8 0 200 rfl (by decide)
    rw [pm_none, qtk, Nat.sub_zero] at this
    obtain ⟨_, _, _, e⟩ := this
    rw [e, Option.bind_some]
    by_cases c : w ≤ qtk (qfr2 V v) w 8
    · rw [if_pos c, if_pos ((px_le0 (by omega)).mpr (by omega))]
    · rw [if_neg c, if_neg (fun q => c (by have := (px_le0 (by omega)).mp q; omega))]
  · unfold fn_X9_ruined_L8
    rw [if_neg (nI_ge (by decide) (by decide)), if_pos (by rw [nI_0] at hx; exact hx), Option.bind_some, if_pos (by rw [nI_0] at hx; exact hx), if_pos (Nat.zero_le _), qsl_0]
def qwv (V : pV) (p v : Nat) : Nat := pnd V p v - pc (qrdy V v) 8
def qru (V : pV) (p : Nat) : Nat → Nat → Bool
  | 0 => fun _ => false
  | v + 1 => fun j => qru V p v j || qsl (qfr2 V v) (qwv V p v) j
theorem px_subor {a b : Nat} (ha : a ≤ 3) (hb : b ≤ 8) : (nI a - nI b = nI (a - b)) ∨ (nI a - nI b ≤ nI 0 ∧ a - b = 0) := by
  have : ∀ a, a < 4 → ∀ b, b < 9 → (nI a - nI b = nI (a - b)) ∨ (nI a - nI b ≤ nI 0 ∧ a - b = 0) := by decide
  exact this a (by omega) b (by omega)
theorem px_suble {a b c : Nat} (ha : a ≤ 3) (hb : b ≤ 8) (hc : c ≤ 8) : nI a - nI b ≤ nI c ↔ a - b ≤ c := by
  have : ∀ a, a < 4 → ∀ b, b < 9 → ∀ c, c < 9 → (nI a - nI b ≤ nI c ↔ a - b ≤ c) := by decide
  exact this a (by omega) b (by omega) c (by omega)
theorem pl_ruins {σ : dc_HP} {V : pV} (hc : pC σ 1 V) (hm : pM σ V) (ho : pOk V) {p : Nat} (hp : p < 6) (y : Int32) : ∀ d v n, v + d = 4 → d < n → ∃ r, fn_X8_ruin_L28 σ (nI p) y n (nI (pm (qru V p v) 8)) (nI v) = some r ∧ fn_X9_ruin_L32 σ (nI p) y n (nI (pm (qru V p v) 8)) (nI v) = some r ∧ ∀ q, r = .inr q → q = nI (pm (qru V p 4) 8) := by
  intro d
  induction d with
  | zero =>
    intro v n hi hn
    obtain ⟨m, rfl⟩ : ∃ m, n = m + 1 := ⟨n - 1, by omega⟩
    obtain rfl : v = 4 := by omega
    refine ⟨.inr (nI (pm (qru V p 4) 8)), ?_, ?_, ?_⟩
    · unfold fn_X8_ruin_L28
      rw [if_pos (nI_le (Nat.le_refl 4) (by decide))]
    · unfold fn_X9_ruin_L32
      rw [if_pos (nI_le (Nat.le_refl 4) (by decide))]
    · intro q hq
      exact (Sum.inr.inj hq).symm
  | succ d ih =>
    intro v n hi hn
    obtain ⟨m, rfl⟩ : ∃ m, n = m + 1 := ⟨n - 1, by omega⟩
    have hv : v < 4 := by omega
    have hn3 := ho.2.2.2.1 p hp v hv
    have hb8 := pc_le (qrdy V v) 8
    have e58 : σ.1 58 (4 * p + v) = nI (pnd V p v) := by
      obtain ⟨_, _, _, _, _, _, _, h4, _, _⟩ := hm
      exact h4 p hp v hv
    have hw : qwv V p v ≤ 8 := by unfold qwv; omega
    have hl := qtk_le (qfr2 V v) (qwv V p v) 8
    have hx := px_subor hn3 hb8
    have hle := fun c (h : c ≤ 8) => px_suble hn3 hb8 h
    have eb := (px_cnt (qrdy V v)).1
    have ec := (px_cnt (qsl (qfr2 V v) (qwv V p v))).1
    rw [qtk_pc] at ec
    have en := pc_needOf hc hp hv
    have er := pc_ready hc ho hv
    have el := pc_least hc ho hv hw (x := nI (pnd V p v) - nI (pc (qrdy V v) 8)) hx
    have emr := pm_ready hm ho hv
    have eru := pm_ruined hm ho hv hw (x := nI (pnd V p v) - nI (pc (qrdy V v) 8)) hx
    have i8 : fn_X8_ruin_L28 σ (nI p) y (m + 1) (nI (pm (qru V p v) 8)) (nI v) = if qwv V p v ≤ qtk (qfr2 V v) (qwv V p v) 8 then fn_X8_ruin_L28 σ (nI p) y m (nI (pm (qru V p (v + 1)) 8)) (nI (v + 1)) else some (.inl (-6 : Int32)) := by
      rw [fn_X8_ruin_L28]
      rw [if_neg (nI_ge (by omega) (by decide)), en, Option.bind_some, er, Option.bind_some, eb, Option.bind_some, el, Option.bind_some, ec, Option.bind_some, px_por, nI_add]
      by_cases c : qwv V p v ≤ qtk (qfr2 V v) (qwv V p v) 8
      · rw [if_pos c, if_pos ((hle _ hl.2).mpr c)]; rfl
      · rw [if_neg c, if_neg (fun q => c ((hle _ hl.2).mp q))]
    have i9 : fn_X9_ruin_L32 σ (nI p) y (m + 1) (nI (pm (qru V p v) 8)) (nI v) = if qwv V p v ≤ qtk (qfr2 V v) (qwv V p v) 8 then fn_X9_ruin_L32 σ (nI p) y m (nI (pm (qru V p (v + 1)) 8)) (nI (v + 1)) else some (.inl (-6 : Int32)) := by
      rw [fn_X9_ruin_L32]
      rw [if_neg (nI_ge (by omega) (by decide)), pk_mul, nI_add, px_gg (by omega) (by decide), nI_clamp (by omega), emr, Option.bind_some, e58, eru, Option.bind_some, nI_add]
      by_cases c : qwv V p v ≤ qtk (qfr2 V v) (qwv V p v) 8
      · rw [if_pos c, if_pos c, if_pos (by rw [px_0le (pm_lt31 _ (by decide))]; trivial), px_por]; rfl
      · rw [if_neg c, if_neg c, if_neg (by decide)]
    rw [i8, i9]
    by_cases c : qwv V p v ≤ qtk (qfr2 V v) (qwv V p v) 8
    · rw [if_pos c, if_pos c]
      exact ih (v + 1) m (by omega) (by omega)
    · rw [if_neg c, if_neg c]
      exact ⟨_, rfl, rfl, fun q hq => by cases hq⟩
theorem op_ruin (x y : Int32) : pRd (fun σ => fn_X8_ruin σ x y) (fun σ => fn_X9_ruin σ x y) := by
  intro σ hR
  obtain ⟨G, ho, hc, hm⟩ := hR
  have n1 : ¬ nI 1 = 0 := by decide
  by_cases hx : pr x 0 5
  · have e1 := (px_within (x := x) (lo := 0) (hi := 5) (by decide) (by decide)).1 hx
    have f1 := (px_in (x := x) (lo := 0) (hi := 5) (L := 0) (H := 5) (by decide) (by decide)).1 hx
    by_cases hy : pr y 0 1
    · have e2 := (px_within (x := y) (lo := 0) (hi := 1) (by decide) (by decide)).1 hy
      have f2 := (px_in (x := y) (lo := 0) (hi := 1) (L := 0) (H := 1) (by decide) (by decide)).1 hy
      obtain ⟨p, hp, rfl⟩ := pr_of (by decide) hx
      obtain ⟨r, g1, g2, g3⟩ := pl_ruins hc.1 hm.1 ho.1 (p := p) (by omega) y 4 0 200 rfl (by decide)
      have z0 : pm (qru G.1 p 0) 8 = 0 := by show pm (fun _ => false) 8 = 0; decide
      rw [z0] at g1 g2
      cases r with
      | inl q =>
        refine ⟨q, ?_, ?_⟩
        · simp only [fn_X8_ruin, e1, e2, Option.bind_some, n1, if_false, g1, Sum.elim_inl]
        · simp only [fn_X9_ruin, f1, f2, Option.bind_some, n1, if_false, g2, Sum.elim_inl]
      | inr q =>
        have eq := g3 q rfl
        subst eq
        refine ⟨if y = 0 then nI (pc (qru G.1 p 4) 8) else nI (pm (qru G.1 p 4) 8), ?_, ?_⟩
        · simp only [fn_X8_ruin, e1, e2, Option.bind_some, n1, if_false, g1, Sum.elim_inr, (px_cnt _).1]
          split <;> rfl
        · simp only [fn_X9_ruin, f1, f2, Option.bind_some, n1, if_false, g2, Sum.elim_inr, (px_cnt _).2]
          split <;> rfl
    · refine ⟨(-2 : Int32), ?_, ?_⟩
      · simp only [fn_X8_ruin, e1, (px_within (x := y) (lo := 0) (hi := 1) (by decide) (by decide)).2 hy, Option.bind_some, n1, if_false]
        rw [if_pos nI_0]
      · simp only [fn_X9_ruin, f1, (px_in (x := y) (lo := 0) (hi := 1) (L := 0) (H := 1) (by decide) (by decide)).2 hy, Option.bind_some, n1, if_false]
        rw [if_pos nI_0]
  · refine ⟨(-1 : Int32), ?_, ?_⟩
    · simp only [fn_X8_ruin, (px_within (x := x) (lo := 0) (hi := 5) (by decide) (by decide)).2 hx, Option.bind_some]
      rw [if_pos nI_0]
    · simp only [fn_X9_ruin, (px_in (x := x) (lo := 0) (hi := 5) (L := 0) (H := 5) (by decide) (by decide)).2 hx, Option.bind_some]
      rw [if_pos nI_0]
