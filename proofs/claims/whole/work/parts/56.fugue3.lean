/-! fugue: the reference, the answers -/
theorem qt_eq {t : Nat} (ht : t ≤ 10) : (10 : Int64) - (nI t).toInt64 = (nI 10 - nI t).toInt64 := by
  have : ∀ t, t < 11 → (10 : Int64) - (nI t).toInt64 = (nI 10 - nI t).toInt64 := by decide
  exact this t (by omega)
theorem pm_sung {σ : dc_HP} {w : Nat → Int64} (h : ∀ j, j < 10 → σ.2 73 j = w j) {t x : Nat} (ht : t ≤ 10) (hx : x ≤ 9) : fn_X9_sung σ (nI x) (nI t) = some (qsn w t x) := by
  unfold fn_X9_sung qsn
  by_cases c : x = 0
  · rw [if_pos ((px_eq0 (by omega)).mpr c), nI_clamp (by decide), h 0 (by decide), if_pos c]
  · rw [if_neg (fun q => c ((px_eq0 (by omega)).mp q)), pk_sub (by omega), px_gg (by omega) (by decide), nI_clamp (show x - 1 < 2 ^ 31 by omega), h _ (by omega), qt_eq ht, if_neg c]
    by_cases c2 : 9 ≤ x
    · rw [if_pos (nI_le c2 (by omega)), nI_clamp (by decide), h 9 (by decide), if_neg (show ¬ x + 1 < 9 by omega)]
    · rw [if_neg (nI_ge (by omega) (by decide)), nI_add, px_gg (by omega) (by decide), nI_clamp (by omega), h _ (by omega)]
      by_cases c3 : x + 1 < 9
      · rw [if_pos c3]
      · rw [if_neg c3, show x + 1 = 9 by omega]
theorem pl_g43 {c : Nat} (x1 x2 x3 x4 x6 x7 : Int32) : ∀ d i m σ, i + d = 10 → d < m → (∀ j, j < i → σ.2 73 j = (-nI c * nI j).toInt64) → ∃ τ, fn_X9_fugue_L43 x1 x2 x3 x4 (nI c) x6 x7 m (nI i) σ = some τ ∧ τ.1 = σ.1 ∧ (∀ j, j < 10 → τ.2 73 j = (-nI c * nI j).toInt64) := by
  intro d
  induction d with
  | zero =>
    intro i m σ hi hm h
    obtain ⟨m, rfl⟩ : ∃ q, m = q + 1 := ⟨m - 1, by omega⟩
    obtain rfl : i = 10 := by omega
    rw [fn_X9_fugue_L43, if_pos (nI_lt (by decide) (by decide))]
    exact ⟨σ, rfl, rfl, h⟩
  | succ d ih =>
    intro i m σ hi hm h
    obtain ⟨m, rfl⟩ : ∃ q, m = q + 1 := ⟨m - 1, by omega⟩
    rw [fn_X9_fugue_L43, if_neg (nI_nlt (by omega) (by omega)), px_gg (by omega) (by decide), nI_clamp (by omega), nI_add]
    simp only [dc_let]
    exact ih (i + 1) m (dc_wL σ 73 i ((-nI c * nI i).toInt64)) (by omega) (by omega) (fun j hj => by
      by_cases z : j = i
      · rw [z, px_ls]
      · rw [px_ln (by omega)]; exact h j (by omega))
theorem lg_self (x : Int64) : lg_cmp x x ≤ 0 := by
  rw [(lg_cmp_eq x x).mpr rfl]
  decide
theorem pl_g96 {w : Nat → Int64} {t g dd : Nat} (ht : t ≤ 10) {al : Int64} (x2 x6 x7 x11 : Int32) : ∀ d i m σ (x10 : Int32), i + d = 10 → d < m → dd ≤ 9 → (∀ j, j < 10 → σ.2 73 j = w j) → (∀ j, j < i → σ.2 74 j = qnx w t g al j) → (dd < i → x10 = nI (if qbo w t g al dd = true then 1 else 0)) → ∃ τ, fn_X9_fugue_L96 (nI dd) x2 (nI t) (nI g) x6 x7 al x11 m x10 (nI i) σ = some (nI (if qbo w t g al dd = true then 1 else 0), τ) ∧ τ.1 = σ.1 ∧ (∀ j, j < 10 → τ.2 74 j = qnx w t g al j) ∧ ∀ j, τ.2 73 j = σ.2 73 j := by
  intro d
  induction d with
  | zero =>
    intro i m σ x10 hi hm hd h73 h74 hx
    obtain ⟨m, rfl⟩ : ∃ q, m = q + 1 := ⟨m - 1, by omega⟩
    obtain rfl : i = 10 := by omega
    rw [fn_X9_fugue_L96, if_pos (nI_lt (by decide) (by decide)), hx (by omega)]
    exact ⟨σ, rfl, rfl, h74, fun _ => rfl⟩
  | succ d ih =>
    intro i m σ x10 hi hm hd h73 h74 hx
    obtain ⟨m, rfl⟩ : ∃ q, m = q + 1 := ⟨m - 1, by omega⟩
    have hi10 : i < 10 := by omega
    have more : (if nI 9 ≤ nI i then some (qsn w t i) else (fn_X9_sung σ (nI i + nI 1) (nI t)).bind (fun r131 => some (((nI g).toInt64 * al) + r131))) = some (if 9 ≤ i then qsn w t i else qmo w t g al i) := by
      by_cases c : 9 ≤ i
      · rw [if_pos c, if_pos (nI_le c (by omega))]
      · rw [if_neg c, if_neg (nI_ge (by omega) (by decide)), nI_add, pm_sung h73 ht (by omega), Option.bind_some]
        rfl
    have cmp : lg_cmp (if 9 ≤ i then qsn w t i else qmo w t g al i) (qsn w t i) ≤ 0 ↔ qbo w t g al i = false := by
      unfold qbo
      by_cases c : 9 ≤ i
      · rw [if_pos c, decide_eq_false (show ¬ i < 9 by omega), Bool.false_and]
        exact ⟨fun _ => rfl, fun _ => lg_self _⟩
      · rw [if_neg c, decide_eq_true (show i < 9 by omega), Bool.true_and]
        simp
    have nx : qnx w t g al i = if lg_cmp (if 9 ≤ i then qsn w t i else qmo w t g al i) (qsn w t i) ≤ 0 then qsn w t i else (if 9 ≤ i then qsn w t i else qmo w t g al i) := by
      unfold qnx
      by_cases c : 9 ≤ i
      · rw [if_pos c, if_pos c, if_pos (lg_self _)]
      · rw [if_neg c, if_neg c]
    have fl : (if nI i = nI dd then (if lg_cmp (if 9 ≤ i then qsn w t i else qmo w t g al i) (qsn w t i) ≤ 0 then some (nI 0) else some (nI 1)) else some x10) = some (if i = dd then nI (if qbo w t g al dd = true then 1 else 0) else x10) := by
      by_cases c : i = dd
      · rw [if_pos (by rw [c]), if_pos c]
        subst c
        cases q : qbo w t g al i with
        | false => rw [if_pos (cmp.mpr q)]; rfl
        | true => rw [if_neg (fun y => by rw [cmp.mp y] at q; cases q)]; rfl
      · rw [if_neg (fun q => c ((nI_eq (by omega) (by omega)).mp q)), if_neg c]
    have st : fn_X9_fugue_L96 (nI dd) x2 (nI t) (nI g) x6 x7 al x11 (m + 1) x10 (nI i) σ = fn_X9_fugue_L96 (nI dd) x2 (nI t) (nI g) x6 x7 al x11 m (if i = dd then nI (if qbo w t g al dd = true then 1 else 0) else x10) (nI (i + 1)) (dc_wL σ 74 i (qnx w t g al i)) := by
      rw [fn_X9_fugue_L96, if_neg (nI_nlt (by omega) (by omega)), pm_sung h73 ht (by omega), Option.bind_some, more, Option.bind_some, fl, Option.bind_some, px_gg hi10 (by decide), px_gg hi10 (by decide), nI_clamp (by omega), nI_add, nx]
      simp only [dc_let]
      by_cases q : lg_cmp (if 9 ≤ i then qsn w t i else qmo w t g al i) (qsn w t i) ≤ 0
      · rw [if_pos q, if_pos q]
      · rw [if_neg q, if_neg q]
    rw [st]
    obtain ⟨τ, e1, e2, e3, e4⟩ := ih (i + 1) m (dc_wL σ 74 i (qnx w t g al i)) (if i = dd then nI (if qbo w t g al dd = true then 1 else 0) else x10) (by omega) (by omega) hd (fun j hj => (px_ln (by omega)).trans (h73 j hj)) (fun j hj => by
      by_cases z : j = i
      · rw [z, px_ls]
      · rw [px_ln (by omega)]; exact h74 j (by omega)) (fun q => by
      by_cases c : i = dd
      · rw [if_pos c]
      · rw [if_neg c]; exact hx (by omega))
    exact ⟨τ, e1, e2, e3, fun j => (e4 j).trans (px_ln (by omega))⟩
theorem pl_g199 {v : Nat → Int64} (x1 x2 x3 x4 x6 x7 : Int32) (x8 : Int64) (x10 x11 : Int32) : ∀ d i m σ, i + d = 10 → d < m → (∀ j, j < 10 → σ.2 74 j = v j) → (∀ j, j < i → σ.2 73 j = v j) → ∃ τ, fn_X9_fugue_L199 x1 x2 x3 x4 x6 x7 x8 x10 x11 m (nI i) σ = some τ ∧ τ.1 = σ.1 ∧ (∀ j, j < 10 → τ.2 73 j = v j) := by
  intro d
  induction d with
  | zero =>
    intro i m σ hi hm h74 h
    obtain ⟨m, rfl⟩ : ∃ q, m = q + 1 := ⟨m - 1, by omega⟩
    obtain rfl : i = 10 := by omega
    rw [fn_X9_fugue_L199, if_pos (nI_lt (by decide) (by decide))]
    exact ⟨σ, rfl, rfl, h⟩
  | succ d ih =>
    intro i m σ hi hm h74 h
    obtain ⟨m, rfl⟩ : ∃ q, m = q + 1 := ⟨m - 1, by omega⟩
    rw [fn_X9_fugue_L199, if_neg (nI_nlt (by omega) (by omega)), px_gg (by omega) (by decide), px_gg (by omega) (by decide), nI_clamp (by omega), nI_add, h74 i (by omega)]
    simp only [dc_let]
    exact ih (i + 1) m (dc_wL σ 73 i (v i)) (by omega) (by omega) (fun j hj => (px_ln (by omega)).trans (h74 j hj)) (fun j hj => by
      by_cases z : j = i
      · rw [z, px_ls]
      · rw [px_ln (by omega)]; exact h j (by omega))
theorem pl_g79 {c t g mm dd : Nat} (ht : t ≤ 10) (hmm : mm ≤ 8) (hd : dd ≤ 9) (x6 x7 : Int32) : ∀ d i n σ, i + d = mm → d < n → (∀ j, j < 10 → σ.2 73 j = qfw c t g i j) → ∃ τ, fn_X9_fugue_L79 (nI dd) (nI mm) (nI t) (nI g) x6 x7 n (qun i) (nI (if qfb c t g i dd = true then 1 else 0)) (nI i) σ = some (qun mm, nI (if qfb c t g mm dd = true then 1 else 0), τ) ∧ τ.1 = σ.1 ∧ (∀ j, j < 10 → τ.2 73 j = qfw c t g mm j) := by
  intro d
  induction d with
  | zero =>
    intro i n σ hi hn h
    obtain ⟨n, rfl⟩ : ∃ q, n = q + 1 := ⟨n - 1, by omega⟩
    obtain rfl : i = mm := by omega
    rw [fn_X9_fugue_L79, if_pos (nI_le (Nat.le_refl _) (by omega))]
    exact ⟨σ, rfl, rfl, h⟩
  | succ d ih =>
    intro i n σ hi hn h
    obtain ⟨n, rfl⟩ : ∃ q, n = q + 1 := ⟨n - 1, by omega⟩
    obtain ⟨α, a1, a2, a3, a4⟩ := pl_g96 (w := qfw c t g i) (t := t) (g := g) (dd := dd) (al := qun (i + 1)) ht (nI mm) x6 x7 (nI i) 10 0 200 σ (nI (if qfb c t g i dd = true then 1 else 0)) rfl (by decide) hd h (fun j hj => absurd hj (Nat.not_lt_zero _)) (fun q => absurd q (Nat.not_lt_zero _))
    obtain ⟨β, b1, b2, b3⟩ := pl_g199 (nI dd) (nI mm) (nI t) (nI g) x6 x7 (qun (i + 1)) (nI (if qbo (qfw c t g i) t g (qun (i + 1)) dd = true then 1 else 0)) (nI i) 10 0 200 α rfl (by decide) a3 (fun j hj => absurd hj (Nat.not_lt_zero _))
    obtain ⟨τ, e1, e2, e3⟩ := ih (i + 1) n β (by omega) (by omega) b3
    rw [fn_X9_fugue_L79, if_neg (nI_ge (by omega) (by omega)), show qun i * (10 : Int64) = qun (i + 1) from rfl, a1, Option.bind_some, b1, Option.bind_some, nI_add]
    exact ⟨τ, e1, by rw [e2, b2, a2], e3⟩
def pFin (x : Int32) (lo hi : Nat) : Prop := ∃ k, k ≤ hi ∧ x = nI k
theorem qgcd_p {a e : Nat} : 0 < Nat.gcd a (10 ^ e) ∧ Nat.gcd a (10 ^ e) ≤ 10 ^ e := ⟨Nat.gcd_pos_of_pos_right _ (Nat.pow_pos (by decide)), Nat.le_of_dvd (Nat.pow_pos (by decide)) (Nat.gcd_dvd_right _ _)⟩
theorem pb_div {U : Int64} {e : Nat} (he : e ≤ 8) (h1 : -(2 ^ 62) < U.toInt) (h2 : U.toInt < 2 ^ 62) : fn_X8_commonDivisor U (qun e) = some (qL (Nat.gcd U.toInt.natAbs (10 ^ e))) ∧ (∀ x7 : Int32, fn_X9_lowest U (qun e) x7 = if x7 = 0 then some (U / qL (Nat.gcd U.toInt.natAbs (10 ^ e))) else some (qun e / qL (Nat.gcd U.toInt.natAbs (10 ^ e)))) ∧ ¬ qL (Nat.gcd U.toInt.natAbs (10 ^ e)) = 0 := by
  have p8 : 10 ^ e ≤ 10 ^ 8 := Nat.pow_le_pow_right (by decide) he
  have p1 : 0 < 10 ^ e := Nat.pow_pos (by decide)
  have ut := qun_ti he
  have ha := ql_abs h1 h2
  have hu := ql_abs (U := qun e) (by omega) (by omega)
  rw [ut, Int.natAbs_natCast] at hu
  obtain ⟨g1, g2⟩ := qgcd_p (a := U.toInt.natAbs) (e := e)
  have gt : (qL (Nat.gcd U.toInt.natAbs (10 ^ e))).toInt = Nat.gcd U.toInt.natAbs (10 ^ e) := ql_ti (by omega)
  have nz : ¬ qL (Nat.gcd U.toInt.natAbs (10 ^ e)) = 0 := by
    intro q
    rw [q, show (0 : Int64).toInt = 0 from by decide] at gt
    omega
  refine ⟨?_, fun x7 => ?_, nz⟩
  · unfold fn_X8_commonDivisor
    rw [ha.1, hu.1, pc_gcd 200 _ _ 0 (by decide) (by omega) (by omega), qgc_eq 62 200 _ _ (by omega) (by decide), Option.map_some, Option.bind_some, if_neg]
    intro q
    have q2 := Int64.lt_iff_toInt_lt.mp q
    rw [gt, show (1 : Int64).toInt = 1 from by decide] at q2
    omega
  · unfold fn_X9_lowest
    rw [ha.2, Option.bind_some, qun_eq, pm_gcd _ _ _ 200 _ _ (by omega) (by omega), qgc_eq 62 200 _ _ (by omega) (by decide), Option.map_some, Option.bind_some, Nat.gcd_comm (10 ^ e) U.toInt.natAbs, if_neg nz, if_neg nz]
theorem px_bits {b k : Nat} (hb : b < 2 ^ 10) (hk : k < 10) : fn_X8_bit (nI b) (nI k) = some (nI (if b.testBit k then 1 else 0)) := by
  unfold fn_X8_bit
  rw [px_bit (by omega) (by omega)]
theorem pb_1 (b : Bool) : (nI (if b = true then 1 else 0)).toInt64 = if nI (if b = true then 1 else 0) = 0 then (0 : Int64) else 1 := by cases b <;> decide
