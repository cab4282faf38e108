/-! seats -/
def qbd (n e : Nat) : Nat := qdg n (5 - e)
theorem qbd_9 (n e : Nat) : qbd n e ≤ 9 := by unfold qbd qdg; omega
def qahf (n e : Nat) : Nat → Bool := fun j => decide (qbd n e < qbd n j) || (decide (qbd n j = qbd n e) && decide (j < e))
def qah (n e : Nat) : Nat := pc (qahf n e) 6
theorem qah_6 (n e : Nat) : qah n e ≤ 6 := pc_le _ _
theorem pc_s0 {f : Nat → Bool} {i : Nat} (h : f i = false) : pc f (i + 1) = pc f i := by rw [pc, h]; rfl
theorem pc_s1 {f : Nat → Bool} {i : Nat} (h : f i = true) : pc f (i + 1) = pc f i + 1 := by rw [pc, h]; rfl
theorem pl_place {n e : Nat} (hn : n < 2 ^ 31) (he : e < 6) : ∀ d i m, i + d = 6 → d < m → fn_X8_placeOfBid_L13 (nI n) (nI e) (nI (qbd n e)) m (nI (pc (qahf n e) i)) (nI i) = some (nI (qah n e)) := by
  intro d
  induction d with
  | zero =>
    intro i m hi hm
    obtain ⟨m, rfl⟩ : ∃ q, m = q + 1 := ⟨m - 1, by omega⟩
    obtain rfl : i = 6 := by omega
    unfold fn_X8_placeOfBid_L13
    rw [if_pos (nI_le (Nat.le_refl _) (by decide))]
    rfl
  | succ d ih =>
    intro i m hi hm
    obtain ⟨m, rfl⟩ : ∃ q, m = q + 1 := ⟨m - 1, by omega⟩
    have g := ih (i + 1) m (by omega) (by omega)
    have b1 := qbd_9 n e
    have b2 := qbd_9 n i
    unfold fn_X8_placeOfBid_L13
    rw [if_neg (nI_ge (by omega) (by decide)), pk_sub (by omega), px_digit hn (by omega), Option.bind_some, show qdg n (5 - i) = qbd n i from rfl, nI_add, nI_add]
    by_cases c1 : qbd n e < qbd n i
    · rw [if_pos (nI_lt c1 (by omega)), ← pc_s1 (f := qahf n e) (i := i) (by simp [qahf, c1])]
      exact g
    · rw [if_neg (nI_nlt (by omega) (by omega))]
      by_cases c2 : qbd n i = qbd n e
      · rw [if_pos (by rw [c2])]
        by_cases c3 : e ≤ i
        · rw [if_pos (nI_le c3 (by omega)), ← pc_s0 (f := qahf n e) (i := i) (by simp [qahf, c2]; omega)]
          exact g
        · rw [if_neg (nI_ge (by omega) (by omega)), ← pc_s1 (f := qahf n e) (i := i) (by simp [qahf, c2]; omega)]
          exact g
      · rw [if_neg (fun q => c2 ((nI_eq (by omega) (by omega)).mp q)), ← pc_s0 (f := qahf n e) (i := i) (by simp [qahf, c1, c2])]
        exact g
theorem px_place {n e : Nat} (hn : n < 2 ^ 31) (he : e < 6) : fn_X8_placeOfBid (nI n) (nI e) = some (nI (qah n e)) := by
  unfold fn_X8_placeOfBid
  have g := pl_place hn he 6 0 200 rfl (by decide)
  rw [show pc (qahf n e) 0 = 0 from rfl] at g
  rw [pk_sub (by omega), px_digit hn (by omega), Option.bind_some, show qdg n (5 - e) = qbd n e from rfl, g, Option.bind_some]
def qpr (n k : Nat) : Nat → Nat
  | 0 => 0
  | i + 1 => if qah n i = k then qbd n i else qpr n k i
def qse (n k : Nat) : Nat → Bool := fun j => decide (qah n j < k)
theorem pl_seats {n k : Nat} (hn : n < 2 ^ 31) (hk : k ≤ 6) (y : Int32) : ∀ d i m, i + d = 6 → d < m → fn_X8_seats_L41 (nI k) (nI n) y m (nI (pm (fun j => decide (j < i) && qse n k j) 8)) (nI (qpr n k i)) (nI i) = some (nI (pm (fun j => decide (j < 6) && qse n k j) 8), nI (qpr n k 6)) := by
  intro d
  induction d with
  | zero =>
    intro i m hi hm
    obtain ⟨m, rfl⟩ : ∃ q, m = q + 1 := ⟨m - 1, by omega⟩
    obtain rfl : i = 6 := by omega
    unfold fn_X8_seats_L41
    rw [if_pos (nI_le (Nat.le_refl _) (by decide))]
  | succ d ih =>
    intro i m hi hm
    obtain ⟨m, rfl⟩ : ∃ q, m = q + 1 := ⟨m - 1, by omega⟩
    have g := ih (i + 1) m (by omega) (by omega)
    rw [qpr] at g
    have b := qah_6 n i
    unfold fn_X8_seats_L41
    rw [if_neg (nI_ge (by omega) (by decide)), px_place hn (by omega), Option.bind_some, nI_add]
    by_cases c : k ≤ qah n i
    · rw [if_pos (nI_le c (by omega))]
      rw [← pm_acc0 (g := qse n k) (by simp [qse]; omega)] at g
      by_cases c2 : qah n i = k
      · rw [if_pos (by rw [c2]), pk_sub (by omega), px_digit hn (by omega), Option.bind_some]
        rw [if_pos c2] at g
        exact g
      · rw [if_neg (fun q => c2 ((nI_eq (by omega) (by omega)).mp q))]
        rw [if_neg c2] at g
        exact g
    · rw [if_neg (nI_ge (by omega) (by omega)), px_set _ (by decide) (by omega)]
      rw [← pm_acc1 (g := qse n k) (by simp [qse]; omega), if_neg (by omega)] at g
      exact g
def W69 (c _j : Nat) : Prop := c = 69
theorem px_dec {i : Nat} (hi : i < 60) : nI (i + 1) + (-1 : Int32) = nI i := by
  have : ∀ i, i < 60 → nI (i + 1) + (-1 : Int32) = nI i := by decide
  exact this i hi
theorem pl_bids (x y : Int32) : ∀ i q m σ, i < 6 → i + 1 < m → q < 2 ^ 31 → ∃ τ, fn_X9_seats_L43 x y m (nI q) (nI i) σ = some τ ∧ pW W69 σ τ ∧ (∀ j, j ≤ i → τ.1 69 j = nI (q / 10 ^ (i - j) % 10)) ∧ ∀ j, i < j → τ.1 69 j = σ.1 69 j := by
  intro i
  induction i with
  | zero =>
    intro q m σ hi hm hq
    obtain ⟨m, rfl⟩ : ∃ q, m = q + 1 + 1 := ⟨m - 2, by omega⟩
    rw [fn_X9_seats_L43, if_neg (nI_pos (by decide)), px_gg (by decide) (by decide), nI_clamp (by decide), px_rem10 hq]
    simp only [dc_let]
    rw [fn_X9_seats_L43, if_pos (show nI 0 + (-1 : Int32) < 0 by decide)]
    refine ⟨_, rfl, pW.rf.w rfl, fun j hj => ?_, fun j hj => px_wn (by omega)⟩
    obtain rfl : j = 0 := by omega
    rw [px_ws]
    simp
  | succ i ih =>
    intro q m σ hi hm hq
    obtain ⟨m, rfl⟩ : ∃ q, m = q + 1 := ⟨m - 1, by omega⟩
    rw [fn_X9_seats_L43, if_neg (nI_pos (by omega)), px_gg hi (by decide), nI_clamp (by omega), px_rem10 hq, px_div10 hq, px_dec (by omega)]
    simp only [dc_let]
    obtain ⟨τ, e, f, g1, g2⟩ := ih (q / 10) m (dc_wI σ 69 (i + 1) (nI (q % 10))) (by omega) (by omega) (by omega)
    refine ⟨τ, e, (pW.rf.w (W := W69) rfl).tr f, fun j hj => ?_, fun j hj => ?_⟩
    · by_cases c : j = i + 1
      · subst c
        rw [g2 _ (by omega), px_ws]
        simp
      · rw [g1 j (by omega), show i + 1 - j = (i - j) + 1 by omega, Nat.pow_succ, Nat.mul_comm, Nat.div_div_eq_div_mul]
    · rw [g2 j (by omega), px_wn (by omega)]
theorem pl_ahead {σ : dc_HP} {n e : Nat} (h : ∀ j, j < 6 → σ.1 69 j = nI (qbd n j)) (he : e < 6) : ∀ d i m, i + d = 6 → d < m → fn_X9_ahead_L4 σ (nI e) m (nI (pc (qahf n e) i)) (nI i) = some (nI (qah n e)) := by
  intro d
  induction d with
  | zero =>
    intro i m hi hm
    obtain ⟨m, rfl⟩ : ∃ q, m = q + 1 := ⟨m - 1, by omega⟩
    obtain rfl : i = 6 := by omega
    unfold fn_X9_ahead_L4
    rw [if_pos (nI_le (Nat.le_refl _) (by decide))]
    rfl
  | succ d ih =>
    intro i m hi hm
    obtain ⟨m, rfl⟩ : ∃ q, m = q + 1 := ⟨m - 1, by omega⟩
    have g := ih (i + 1) m (by omega) (by omega)
    have b1 := qbd_9 n e
    have b2 := qbd_9 n i
    have hi6 : i < 6 := by omega
    unfold fn_X9_ahead_L4
    rw [if_neg (nI_ge hi6 (by decide)), px_gg hi6 (by decide), px_gg he (by decide), nI_clamp (by omega), nI_clamp (by omega), h e he, h i hi6, nI_add, nI_add, nI_add, Nat.add_zero]
    by_cases c1 : qbd n e < qbd n i
    · rw [if_pos (nI_lt c1 (by omega)), ← pc_s1 (f := qahf n e) (i := i) (by simp [qahf, c1])]
      exact g
    · rw [if_neg (nI_nlt (by omega) (by omega)), px_gi hi6 (by decide), px_gi he (by decide)]
      by_cases c2 : qbd n i = qbd n e
      · rw [if_pos (by rw [c2])]
        by_cases c3 : e ≤ i
        · rw [if_pos (nI_le c3 (by omega)), ← pc_s0 (f := qahf n e) (i := i) (by simp [qahf, c2]; omega)]
          exact g
        · rw [if_neg (nI_ge (by omega) (by omega)), ← pc_s1 (f := qahf n e) (i := i) (by simp [qahf, c2]; omega)]
          exact g
      · rw [if_neg (fun q => c2 ((nI_eq (by omega) (by omega)).mp q)), ← pc_s0 (f := qahf n e) (i := i) (by simp [qahf, c1, c2])]
        exact g
theorem pm_ahead {σ : dc_HP} {n e : Nat} (h : ∀ j, j < 6 → σ.1 69 j = nI (qbd n j)) (he : e < 6) : fn_X9_ahead σ (nI e) = some (nI (qah n e)) := by
  unfold fn_X9_ahead
  have g := pl_ahead h he 6 0 200 rfl (by decide)
  rw [show pc (qahf n e) 0 = 0 from rfl] at g
  rw [g, Option.bind_some]
theorem pl_mseats {σ : dc_HP} {n k : Nat} (h : ∀ j, j < 6 → σ.1 69 j = nI (qbd n j)) (hk : k ≤ 6) (y : Int32) : ∀ d i m, i + d = 6 → d < m → fn_X9_seats_L82 σ (nI k) y m (nI (pm (fun j => decide (j < i) && qse n k j) 8)) (nI (qpr n k i)) (nI i) = some (nI (pm (fun j => decide (j < 6) && qse n k j) 8), nI (qpr n k 6)) := by
  intro d
  induction d with
  | zero =>
    intro i m hi hm
    obtain ⟨m, rfl⟩ : ∃ q, m = q + 1 := ⟨m - 1, by omega⟩
    obtain rfl : i = 6 := by omega
    unfold fn_X9_seats_L82
    rw [if_pos (nI_le (Nat.le_refl _) (by decide))]
  | succ d ih =>
    intro i m hi hm
    obtain ⟨m, rfl⟩ : ∃ q, m = q + 1 := ⟨m - 1, by omega⟩
    have g := ih (i + 1) m (by omega) (by omega)
    rw [qpr] at g
    have b := qah_6 n i
    have hi6 : i < 6 := by omega
    unfold fn_X9_seats_L82
    rw [if_neg (nI_ge hi6 (by decide)), pm_ahead h hi6, Option.bind_some, nI_add]
    by_cases c : k ≤ qah n i
    · rw [if_pos (nI_le c (by omega)), Option.bind_some, Option.bind_some, px_or, Nat.or_zero]
      rw [← pm_acc0 (g := qse n k) (by simp [qse]; omega)] at g
      by_cases c2 : qah n i = k
      · rw [if_pos (by rw [c2]), px_gg hi6 (by decide), nI_clamp (by omega), h i hi6]
        rw [if_pos c2] at g
        exact g
      · rw [if_neg (fun q => c2 ((nI_eq (by omega) (by omega)).mp q))]
        rw [if_neg c2] at g
        exact g
    · rw [if_neg (nI_ge (by omega) (by omega)), Option.bind_some, Option.bind_some, px_set _ (by decide) (by omega), if_neg (fun q => c (by have := (nI_eq (by omega) (by omega)).mp q; omega))]
      rw [← pm_acc1 (g := qse n k) (by simp [qse]; omega), if_neg (by omega)] at g
      exact g
theorem op_seats (x y z : Int32) : pOp (fun σ => (fn_X8_seats x y z).map (·, σ)) (fun σ => fn_X9_seats σ x y z) := by
  intro σ hR
  obtain ⟨G, ho, hc, hm⟩ := id hR
  have n1 : ¬ nI 1 = 0 := by decide
  by_cases hx : pr x 0 6
  · have e1 := (px_within (x := x) (lo := 0) (hi := 6) (by decide) (by decide)).1 hx
    have f1 := (px_in (x := x) (lo := 0) (hi := 6) (L := 0) (H := 6) (by decide) (by decide)).1 hx
    by_cases hy : pr y 0 999999
    · have e2 : fn_X8_within y (nI 0) (999999 : Int32) = some (nI 1) := (px_within (x := y) (lo := 0) (hi := 999999) (by decide) (by decide)).1 hy
      have f2 := (px_in (x := y) (lo := 0) (hi := 999999) (L := 0) (H := 999999) (by decide) (by decide)).1 hy
      by_cases hz : pr z 0 1
      · have e3 := (px_within (x := z) (lo := 0) (hi := 1) (by decide) (by decide)).1 hz
        have f3 := (px_in (x := z) (lo := 0) (hi := 1) (L := 0) (H := 1) (by decide) (by decide)).1 hz
        obtain ⟨k, hk, rfl⟩ := pr_of (by decide) hx
        obtain ⟨n, hn, rfl⟩ := pr_of (by decide) hy
        have a := pl_seats (n := n) (by omega) hk z 6 0 200 rfl (by decide)
        rw [pm_none, show qpr n k 0 = 0 from rfl] at a
        obtain ⟨τ, b1, b2, b3, b4⟩ := pl_bids (nI k) z 5 n 200 σ (by decide) (by decide) (by omega)
        have c := pl_mseats (σ := τ) (n := n) (fun j hj => b3 j (by omega)) hk z 6 0 200 rfl (by decide)
        rw [pm_none, show qpr n k 0 = 0 from rfl] at c
        refine ⟨if z = 0 then nI (pm (fun j => decide (j < 6) && qse n k j) 8) else nI (qpr n k 6), σ, τ, ?_, ?_, G, ho, hc.m b2 (fun c j w => by unfold W69 at w; omega), hm.other ho (fun c j u => b2.1 c j (by unfold Um at u; unfold W69; omega))⟩
        · simp only [fn_X8_seats, e1, e2, e3, Option.bind_some, n1, if_false, a]
          split <;> rfl
        · simp only [fn_X9_seats, f1, f2, f3, Option.bind_some, n1, if_false, b1, c]
          split <;> rfl
      · refine ⟨(-2 : Int32), σ, σ, ?_, ?_, hR⟩
        · simp only [fn_X8_seats, e1, e2, (px_within (x := z) (lo := 0) (hi := 1) (by decide) (by decide)).2 hz, Option.bind_some, n1, if_false]
          rw [if_pos nI_0]; rfl
        · simp only [fn_X9_seats, f1, f2, (px_in (x := z) (lo := 0) (hi := 1) (L := 0) (H := 1) (by decide) (by decide)).2 hz, Option.bind_some, n1, if_false]
          rw [if_pos nI_0]
    · refine ⟨(-2 : Int32), σ, σ, ?_, ?_, hR⟩
      · have e2 : fn_X8_within y (nI 0) (999999 : Int32) = some (nI 0) := (px_within (x := y) (lo := 0) (hi := 999999) (by decide) (by decide)).2 hy
        simp only [fn_X8_seats, e1, e2, Option.bind_some, n1, if_false]
        rw [if_pos nI_0]; rfl
      · simp only [fn_X9_seats, f1, (px_in (x := y) (lo := 0) (hi := 999999) (L := 0) (H := 999999) (by decide) (by decide)).2 hy, Option.bind_some, n1, if_false]
        rw [if_pos nI_0]
  · refine ⟨(-2 : Int32), σ, σ, ?_, ?_, hR⟩
    · simp only [fn_X8_seats, (px_within (x := x) (lo := 0) (hi := 6) (by decide) (by decide)).2 hx, Option.bind_some]
      rw [if_pos nI_0]; rfl
    · simp only [fn_X9_seats, (px_in (x := x) (lo := 0) (hi := 6) (L := 0) (H := 6) (by decide) (by decide)).2 hx, Option.bind_some]
      rw [if_pos nI_0]
