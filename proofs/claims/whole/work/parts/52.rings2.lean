/-! rings: rankings told, and the reference -/
def qmk (a b c d : Nat) : Nat := 2 ^ a ||| 2 ^ b ||| 2 ^ c ||| 2 ^ d
def qm1 (a : Nat) : Nat := if 4 ≤ a then 0 else 2 ^ a
def qmr (a b c d : Nat) : Nat := qm1 a ||| qm1 b ||| qm1 c ||| qm1 d
set_option maxRecDepth 100000 in
theorem qmk_eq : ∀ d, d < 10 → ∀ c, c < 10 → ∀ b, b < 10 → ∀ a, a < 10 → (decide (qmk a b c d = 15) = (decide (qmr a b c d = 15) && decide (a + 10 * b + 100 * c + 1000 * d ≤ 3210))) := by decide +kernel
set_option maxRecDepth 100000 in
theorem qmk_rka : ∀ d, d < 10 → ∀ c, c < 10 → ∀ b, b < 10 → ∀ a, a < 10 → (!decide (qmk a b c d = 15) || (decide (a < 4) && decide (b < 4) && decide (c < 4) && decide (d < 4) && (List.range 4).all (fun p => decide (a = p) || decide (b = p) || decide (c = p) || decide (d = p)))) = true := by decide +kernel
theorem qmk_rk : ∀ d, d < 10 → ∀ c, c < 10 → ∀ b, b < 10 → ∀ a, a < 10 → qmk a b c d = 15 → (a < 4 ∧ b < 4 ∧ c < 4 ∧ d < 4) ∧ ∀ p, p < 4 → (a = p ∨ b = p ∨ c = p ∨ d = p) := by
  intro d hd c hc b hb a ha h
  have e := qmk_rka d hd c hc b hb a ha
  rw [decide_eq_true h, Bool.not_true, Bool.false_or] at e
  simp only [Bool.and_eq_true, decide_eq_true_iff, List.all_eq_true, Bool.or_eq_true, List.mem_range] at e
  refine ⟨⟨e.1.1.1.1, e.1.1.1.2, e.1.1.2, e.1.2⟩, fun p hp => ?_⟩
  have := e.2 p hp
  omega
def qgood (n : Nat) : Prop := qmk (qdg n 0) (qdg n 1) (qdg n 2) (qdg n 3) = 15
theorem qdg_9 (n i : Nat) : qdg n i < 10 := Nat.mod_lt _ (by decide)
theorem qgood_rk {n : Nat} (h : n ≤ 9999) (g : qgood n) : qrk n := by
  obtain ⟨⟨a, b, c, d⟩, e⟩ := qmk_rk _ (qdg_9 n 3) _ (qdg_9 n 2) _ (qdg_9 n 1) _ (qdg_9 n 0) g
  refine ⟨h, fun i hi => ?_, fun p hp => ?_⟩
  · rcases (show i = 0 ∨ i = 1 ∨ i = 2 ∨ i = 3 by omega) with rfl | rfl | rfl | rfl
    · exact a
    · exact b
    · exact c
    · exact d
  · rcases e p hp with q | q | q | q
    · exact ⟨0, by decide, q⟩
    · exact ⟨1, by decide, q⟩
    · exact ⟨2, by decide, q⟩
    · exact ⟨3, by decide, q⟩
theorem qdg_sum {n : Nat} (h : n ≤ 9999) : qdg n 0 + 10 * qdg n 1 + 100 * qdg n 2 + 1000 * qdg n 3 = n := by
  unfold qdg
  omega
theorem qgood_r {n : Nat} (h : n ≤ 9999) : qgood n ↔ (n ≤ 3210 ∧ qmr (qdg n 0) (qdg n 1) (qdg n 2) (qdg n 3) = 15) := by
  have e := qmk_eq _ (qdg_9 n 3) _ (qdg_9 n 2) _ (qdg_9 n 1) _ (qdg_9 n 0)
  rw [qdg_sum h] at e
  unfold qgood
  by_cases c : qmk (qdg n 0) (qdg n 1) (qdg n 2) (qdg n 3) = 15
  · rw [decide_eq_true c] at e
    have := e.symm
    rw [Bool.and_eq_true, decide_eq_true_iff, decide_eq_true_iff] at this
    exact ⟨fun _ => ⟨this.2, this.1⟩, fun _ => c⟩
  · rw [decide_eq_false c] at e
    refine ⟨fun q => absurd q c, fun q => ?_⟩
    rw [decide_eq_true q.1, decide_eq_true q.2] at e
    cases e
theorem pw2_lt {a n : Nat} (h : a < n) : 2 ^ a < 2 ^ n := Nat.pow_lt_pow_right (by decide) h
theorem qmk_lt (n : Nat) : qmk (qdg n 0) (qdg n 1) (qdg n 2) (qdg n 3) < 2 ^ 10 := Nat.or_lt_two_pow (Nat.or_lt_two_pow (Nat.or_lt_two_pow (pw2_lt (qdg_9 _ _)) (pw2_lt (qdg_9 _ _))) (pw2_lt (qdg_9 _ _))) (pw2_lt (qdg_9 _ _))
theorem qm1_lt {a : Nat} : qm1 a < 2 ^ 10 := by
  unfold qm1
  split
  · decide
  · exact pw2_lt (by omega)
theorem qmr_lt (a b c d : Nat) : qmr a b c d < 2 ^ 10 := Nat.or_lt_two_pow (Nat.or_lt_two_pow (Nat.or_lt_two_pow qm1_lt qm1_lt) qm1_lt) qm1_lt
theorem pc_ranks {x : Int32} : (∀ n, x = nI n → n ≤ 9999 → fn_X8_areRanks x = some (nI (if qmk (qdg n 0) (qdg n 1) (qdg n 2) (qdg n 3) = 15 then 1 else 0))) ∧ (¬ pr x 0 9999 → fn_X8_areRanks x = some (nI 0)) := by
  constructor
  · rintro n rfl hn
    unfold fn_X8_areRanks
    have st : ∀ i m a, i < 4 → fn_X8_areRanks_L17 (nI n) (m + 1) (nI a) (nI i) = fn_X8_areRanks_L17 (nI n) m (nI (a ||| 2 ^ qdg n i)) (nI (i + 1)) := by
      intro i m a hi
      rw [fn_X8_areRanks_L17, if_neg (nI_ge hi (by decide)), px_digit (by omega) (by omega), Option.bind_some, px_shl1 _ (by have := qdg_9 n i; omega), px_or, nI_add]
    have en : ∀ m a, fn_X8_areRanks_L17 (nI n) (m + 1) (nI a) (nI 4) = some (nI a) := by
      intro m a
      rw [fn_X8_areRanks_L17, if_pos (nI_le (Nat.le_refl _) (by decide))]
    rw [px_withinN (by omega) (by decide) (by decide), if_pos (show 0 ≤ n ∧ n ≤ 9999 by omega), Option.bind_some, if_neg (by decide), show (200 : Nat) = 199 + 1 from rfl, st 0 199 0 (by decide), show (199 : Nat) = 198 + 1 from rfl, st 1 198 _ (by decide), show (198 : Nat) = 197 + 1 from rfl, st 2 197 _ (by decide), show (197 : Nat) = 196 + 1 from rfl, st 3 196 _ (by decide), show (196 : Nat) = 195 + 1 from rfl, en 195, Option.bind_some, Nat.zero_or]
    have hl := qmk_lt n
    change (if nI (qmk (qdg n 0) (qdg n 1) (qdg n 2) (qdg n 3)) = nI 15 then some (nI 1) else some (nI 0)) = _
    by_cases c : qmk (qdg n 0) (qdg n 1) (qdg n 2) (qdg n 3) = 15
    · rw [if_pos c, if_pos (by rw [c])]
    · rw [if_neg c, if_neg (fun q => c ((nI_eq (by omega) (by decide)).mp q))]
  · intro h
    unfold fn_X8_areRanks
    rw [(px_within (lo := 0) (hi := 9999) (by decide) (by decide)).2 h, Option.bind_some, if_pos nI_0]
def W70 (c _j : Nat) : Prop := c = 70
theorem pm_ranks {σ : dc_HP} {k : Nat} (hk : k < 4) (x : Int32) : ∃ r τ, fn_X9_areRanks σ (nI k) x = some (r, τ) ∧ pW W70 σ τ ∧ (∀ j, (j < 4 * k ∨ 4 * k + 4 ≤ j) → τ.1 70 j = σ.1 70 j) ∧ (¬ pr x 0 9999 → r = nI 0) ∧ ∀ n, x = nI n → n ≤ 9999 → r = nI (if qmk (qdg n 0) (qdg n 1) (qdg n 2) (qdg n 3) = 15 then 1 else 0) ∧ ∀ j, j < 4 → τ.1 70 (4 * k + j) = nI (qdg n (3 - j)) := by
  have st : ∀ j m (x3 x4 : Int32) (σ : dc_HP), j < 4 → fn_X9_areRanks_L8 (nI k) x (m + 1) x3 x4 (nI j) σ = fn_X9_areRanks_L8 (nI k) x m (x3 / nI 10) (x4 ||| (if nI 4 ≤ x3 - x3 / nI 10 * nI 10 then nI 0 else nI 1 <<< ((x3 - x3 / nI 10 * nI 10) &&& 31))) (nI j + (-1 : Int32)) (dc_wI σ 70 (4 * k + j) (x3 - x3 / nI 10 * nI 10)) := by
    intro j m x3 x4 σ hj
    rw [fn_X9_areRanks_L8, if_neg (nI_pos (by omega)), pk_mul, nI_add, px_gg (by omega) (by decide), nI_clamp (by omega)]
    simp only [dc_let]
    split <;> rfl
  have en : ∀ m (x3 x4 : Int32) (σ : dc_HP), fn_X9_areRanks_L8 (nI k) x (m + 1) x3 x4 (-1 : Int32) σ = some (x4, σ) := by
    intro m x3 x4 σ
    rw [fn_X9_areRanks_L8, if_pos (by decide)]
  have run : fn_X9_areRanks_L8 (nI k) x 200 x (nI 0) (nI 3) σ = some (nI 0 ||| (if nI 4 ≤ x - x / nI 10 * nI 10 then nI 0 else nI 1 <<< ((x - x / nI 10 * nI 10) &&& 31)) ||| (if nI 4 ≤ x / nI 10 - x / nI 10 / nI 10 * nI 10 then nI 0 else nI 1 <<< ((x / nI 10 - x / nI 10 / nI 10 * nI 10) &&& 31)) ||| (if nI 4 ≤ x / nI 10 / nI 10 - x / nI 10 / nI 10 / nI 10 * nI 10 then nI 0 else nI 1 <<< ((x / nI 10 / nI 10 - x / nI 10 / nI 10 / nI 10 * nI 10) &&& 31)) ||| (if nI 4 ≤ x / nI 10 / nI 10 / nI 10 - x / nI 10 / nI 10 / nI 10 / nI 10 * nI 10 then nI 0 else nI 1 <<< ((x / nI 10 / nI 10 / nI 10 - x / nI 10 / nI 10 / nI 10 / nI 10 * nI 10) &&& 31)), dc_wI (dc_wI (dc_wI (dc_wI σ 70 (4 * k + 3) (x - x / nI 10 * nI 10)) 70 (4 * k + 2) (x / nI 10 - x / nI 10 / nI 10 * nI 10)) 70 (4 * k + 1) (x / nI 10 / nI 10 - x / nI 10 / nI 10 / nI 10 * nI 10)) 70 (4 * k + 0) (x / nI 10 / nI 10 / nI 10 - x / nI 10 / nI 10 / nI 10 / nI 10 * nI 10)) := by
    rw [show (200 : Nat) = 199 + 1 from rfl, st 3 199 _ _ _ (by decide), px_dec (i := 2) (by decide), show (199 : Nat) = 198 + 1 from rfl, st 2 198 _ _ _ (by decide), px_dec (i := 1) (by decide), show (198 : Nat) = 197 + 1 from rfl, st 1 197 _ _ _ (by decide), px_dec (i := 0) (by decide), show (197 : Nat) = 196 + 1 from rfl, st 0 196 _ _ _ (by decide), show nI 0 + (-1 : Int32) = (-1 : Int32) by decide, show (196 : Nat) = 195 + 1 from rfl, en]
  generalize hτ : dc_wI (dc_wI (dc_wI (dc_wI σ 70 (4 * k + 3) (x - x / nI 10 * nI 10)) 70 (4 * k + 2) (x / nI 10 - x / nI 10 / nI 10 * nI 10)) 70 (4 * k + 1) (x / nI 10 / nI 10 - x / nI 10 / nI 10 / nI 10 * nI 10)) 70 (4 * k + 0) (x / nI 10 / nI 10 / nI 10 - x / nI 10 / nI 10 / nI 10 / nI 10 * nI 10) = τ at run
  have W : pW W70 σ τ := by rw [← hτ]; exact (((pW.rf.w (W := W70) rfl).w rfl).w rfl).w rfl
  have fr : ∀ j, (j < 4 * k ∨ 4 * k + 4 ≤ j) → τ.1 70 j = σ.1 70 j := by
    intro j hj
    rw [← hτ, px_wn (by omega), px_wn (by omega), px_wn (by omega), px_wn (by omega)]
  by_cases h : pr x 0 9999
  · obtain ⟨n, hn, rfl⟩ := pr_of (by decide) h
    have d1 : nI n / nI 10 = nI (n / 10) := px_div10 (by omega)
    have d2 : nI (n / 10) / nI 10 = nI (n / 10 / 10) := px_div10 (by omega)
    have d3 : nI (n / 10 / 10) / nI 10 = nI (n / 10 / 10 / 10) := px_div10 (by omega)
    have r0 : nI n - nI n / nI 10 * nI 10 = nI (qdg n 0) := by rw [px_rem10 (by omega)]; unfold qdg; simp
    have r1 : nI (n / 10) - nI (n / 10) / nI 10 * nI 10 = nI (qdg n 1) := by rw [px_rem10 (by omega)]; rfl
    have r2 : nI (n / 10 / 10) - nI (n / 10 / 10) / nI 10 * nI 10 = nI (qdg n 2) := by rw [px_rem10 (by omega), Nat.div_div_eq_div_mul]; rfl
    have r3 : nI (n / 10 / 10 / 10) - nI (n / 10 / 10 / 10) / nI 10 * nI 10 = nI (qdg n 3) := by rw [px_rem10 (by omega), Nat.div_div_eq_div_mul, Nat.div_div_eq_div_mul]; rfl
    have sh : ∀ i, (if nI 4 ≤ nI (qdg n i) then nI 0 else nI 1 <<< (nI (qdg n i) &&& 31)) = nI (qm1 (qdg n i)) := by
      intro i
      have := qdg_9 n i
      unfold qm1
      by_cases c : 4 ≤ qdg n i
      · rw [if_pos c, if_pos (nI_le c (by omega))]
      · rw [if_neg c, if_neg (nI_ge (by omega) (by omega)), px_shl1 _ (by omega)]
    rw [r0, d1, r1, d2, r2, d3, r3] at run hτ
    rw [sh 0, sh 1, sh 2, sh 3, px_or, px_or, px_or, px_or, Nat.zero_or] at run
    have hl := qmr_lt (qdg n 0) (qdg n 1) (qdg n 2) (qdg n 3)
    have run' : fn_X9_areRanks_L8 (nI k) (nI n) 200 (nI n) (nI 0) (nI 3) σ = some (nI (qmr (qdg n 0) (qdg n 1) (qdg n 2) (qdg n 3)), τ) := run
    refine ⟨nI (if qmk (qdg n 0) (qdg n 1) (qdg n 2) (qdg n 3) = 15 then 1 else 0), τ, ?_, W, fr, fun q => absurd h q, fun n' e hn' => ?_⟩
    · unfold fn_X9_areRanks
      rw [run', Option.bind_some, px_inN (lo := 0) (hi := 3210) (by omega) (by decide) (by decide)]
      dsimp only
      have g := qgood_r hn
      unfold qgood at g
      by_cases c1 : n ≤ 3210
      · rw [if_pos (show 0 ≤ n ∧ n ≤ 3210 by omega), Option.bind_some, if_neg (by decide)]
        by_cases c2 : qmr (qdg n 0) (qdg n 1) (qdg n 2) (qdg n 3) = 15
        · rw [if_pos (by rw [c2]), if_pos (g.mpr ⟨c1, c2⟩)]
        · rw [if_neg (fun q => c2 ((nI_eq (by omega) (by decide)).mp q)), if_neg (fun q => c2 (g.mp q).2)]
      · rw [if_neg (show ¬ (0 ≤ n ∧ n ≤ 3210) by omega), Option.bind_some, if_pos nI_0, if_neg (fun q => c1 (g.mp q).1)]
    · have en : n = n' := (nI_eq (by omega) (by omega)).mp e
      subst en
      refine ⟨rfl, fun j hj => ?_⟩
      rcases (show j = 0 ∨ j = 1 ∨ j = 2 ∨ j = 3 by omega) with rfl | rfl | rfl | rfl
      · rw [← hτ, px_ws]
      · rw [← hτ, px_wn (by omega), px_ws]
      · rw [← hτ, px_wn (by omega), px_wn (by omega), px_ws]
      · rw [← hτ, px_wn (by omega), px_wn (by omega), px_wn (by omega), px_ws]
  · refine ⟨nI 0, τ, ?_, W, fr, fun _ => rfl, fun n e hn => absurd (by rw [e]; unfold pr; rw [nI_toInt (by omega)]; omega) h⟩
    unfold fn_X9_areRanks
    rw [run, Option.bind_some, (px_in (x := x) (lo := 0) (hi := 3210) (by decide) (by decide)).2 (fun q => h ⟨q.1, by have := q.2; omega⟩), Option.bind_some, if_pos nI_0]
def pRm (σ : dc_HP) (N : Nat → Nat) : Prop := ∀ k, k < 4 → ∀ j, j < 4 → σ.1 70 (4 * k + j) = nI (qdg (N k) (3 - j))
theorem pl_pt {σ : dc_HP} {N : Nat → Nat} (h : pRm σ N) (hN : ∀ k, k < 4 → qrk (N k)) (L : Nat → Bool) {k : Nat} (hk : k < 4) : ∀ j m, j < 4 → j + 1 < m → fn_X9_pointsTo_L6 σ (nI k) (nI (pm L 4)) m (qen (qbl L (N k) (3 - j))) (nI j) = some (qen (qbl L (N k) 4)) := by
  have stp : ∀ j m, j < 4 → fn_X9_pointsTo_L6 σ (nI k) (nI (pm L 4)) (m + 1) (qen (qbl L (N k) (3 - j))) (nI j) = fn_X9_pointsTo_L6 σ (nI k) (nI (pm L 4)) m (qen (qbl L (N k) (3 - j + 1))) (nI j + (-1 : Int32)) := by
    intro j m hj
    have hd := (hN k hk).2.1 (3 - j) (by omega)
    rw [fn_X9_pointsTo_L6, if_neg (nI_pos (by omega)), pk_mul, nI_add, px_gg (by omega) (by decide), nI_clamp (by omega), h k hk j hj, px_pmbit _ (by decide) hd, px_gi (by omega) (by decide), qbl]
    cases c : L (qdg (N k) (3 - j)) with
    | true => rw [if_pos (by decide), if_pos rfl]; rfl
    | false => rw [if_neg (by decide), if_neg (by decide)]
  intro j
  induction j with
  | zero =>
    intro m hj hm
    obtain ⟨m, rfl⟩ : ∃ q, m = q + 1 + 1 := ⟨m - 2, by omega⟩
    rw [stp 0 (m + 1) hj, fn_X9_pointsTo_L6, if_pos (show nI 0 + (-1 : Int32) < 0 by decide)]
  | succ j ih =>
    intro m hj hm
    obtain ⟨m, rfl⟩ : ∃ q, m = q + 1 := ⟨m - 1, by omega⟩
    rw [stp (j + 1) m hj, px_dec (by omega), show 3 - (j + 1) + 1 = 3 - j by omega]
    exact ih m (by omega) (by omega)
theorem pm_pt {σ : dc_HP} {N : Nat → Nat} (h : pRm σ N) (hN : ∀ k, k < 4 → qrk (N k)) {L : Nat → Bool} {p : Nat} (hp : p < 4) (hL : L p = true) {k : Nat} (hk : k < 4) : fn_X9_pointsTo σ (nI k) (nI (pm L 4)) = some (nI (qpts L N k)) := by
  unfold fn_X9_pointsTo
  have e := pl_pt h hN L hk 3 200 (by decide) (by decide)
  rw [show qen (qbl L (N k) (3 - 3)) = (-6 : Int32) from rfl] at e
  rw [e, Option.bind_some, (qpts_in hN hp hL hk).1]
  rfl
theorem pl_r18 {x : Int32} {σ : dc_HP} {N : Nat → Nat} (h : pRm σ N) (hN : ∀ k, k < 4 → qrk (N k)) {L : Nat → Bool} {k : Nat} (hk : k < 4) (hL : L k = true) : ∀ d i a m (b : Bool), i + d = 4 → a < 4 → d < m → fn_X9_ringed_L18 σ (nI (pm L 4)) x (nI k) m (nI a) (nI (if b = true then 1 else 0)) (nI i) = some (nI (if (b || qwk (qpts L N) k d a) = true then 1 else 0)) := by
  intro d
  induction d with
  | zero =>
    intro i a m b hi ha hm
    obtain ⟨m, rfl⟩ : ∃ q, m = q + 1 := ⟨m - 1, by omega⟩
    obtain rfl : i = 4 := by omega
    rw [fn_X9_ringed_L18, if_pos (nI_le (Nat.le_refl _) (by decide)), qwk, Bool.or_false]
  | succ d ih =>
    intro i a m b hi ha hm
    obtain ⟨m, rfl⟩ : ∃ q, m = q + 1 := ⟨m - 1, by omega⟩
    have hp := qpts_in hN hk hL ha
    rw [fn_X9_ringed_L18, if_neg (nI_ge (by omega) (by decide)), px_pmbit _ (by decide) hk, hL, if_pos (by decide), pm_pt h hN hk hL ha, Option.bind_some, nI_add, qwk]
    cases b with
    | true =>
      rw [if_neg (by decide)]
      have g := ih (i + 1) (qpts L N a) m true (by omega) hp.2.2 (by omega)
      rw [Bool.true_or] at g ⊢
      exact g
    | false =>
      rw [if_pos (by decide), Bool.false_or]
      by_cases c : qpts L N a = k
      · rw [if_pos (by rw [c]), if_pos c]
        have g := ih (i + 1) (qpts L N a) m true (by omega) hp.2.2 (by omega)
        rw [Bool.true_or] at g
        exact g
      · rw [if_neg (fun q => c ((nI_eq (by omega) (by omega)).mp q)), if_neg c]
        have g := ih (i + 1) (qpts L N a) m false (by omega) hp.2.2 (by omega)
        rw [Bool.false_or] at g
        exact g
