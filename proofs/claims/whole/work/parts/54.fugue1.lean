/-! fugue: long numbers, what is owed at best, the greatest divisor -/
def qL (n : Nat) : Int64 := Int64.ofNat n
theorem ql_ti {n : Nat} (h : n < 2 ^ 63) : (qL n).toInt = n := lg_ofNat_toInt h
theorem ql_rem {a b : Nat} (ha : a < 2 ^ 62) (h0 : 0 < b) (hb : b < 2 ^ 62) : qL a - qL a / qL b * qL b = qL (a % b) := by
  apply Int64.toInt_inj.mp
  have e := Nat.div_add_mod' a b
  have l := Nat.mod_lt a h0
  have hd : (qL a / qL b).toInt = ((a / b : Nat) : Int) := by
    rw [lg_ldiv_nonneg (by rw [ql_ti (by omega)]; omega) (by rw [ql_ti (by omega)]; omega), ql_ti (by omega), ql_ti (by omega)]
    exact (Int.natCast_ediv _ _).symm
  have hm : (qL a / qL b * qL b).toInt = ((a / b * b : Nat) : Int) := by
    rw [Int64.toInt_mul, hd, ql_ti (by omega), ← Int.natCast_mul]
    exact Int.bmod_eq_of_le (by omega) (by omega)
  rw [Int64.toInt_sub, hm, ql_ti (by omega), ql_ti (by omega)]
  generalize a / b * b = x at e hm ⊢
  generalize a % b = y at e l ⊢
  rw [Int.bmod_eq_of_le (by omega) (by omega)]
  omega
def qgc : Nat → Nat → Nat → Option Nat
  | 0, _, _ => none
  | n + 1, a, b => if b = 0 then some a else qgc n b (a % b)
theorem gcd_st {a b : Nat} : Nat.gcd a b = Nat.gcd b (a % b) := by
  rw [Nat.gcd_comm a b, Nat.gcd_rec b a, Nat.gcd_comm]
theorem qgc_eq : ∀ k n a b, b < 2 ^ k → 2 * k < n → qgc n a b = some (Nat.gcd a b) := by
  intro k
  induction k with
  | zero =>
    intro n a b hb hn
    obtain ⟨n, rfl⟩ : ∃ q, n = q + 1 := ⟨n - 1, by omega⟩
    have : b = 0 := by
      have : b < 1 := hb
      omega
    rw [qgc, if_pos this, this, Nat.gcd_zero_right]
  | succ k ih =>
    intro n a b hb hn
    obtain ⟨n, rfl⟩ : ∃ q, n = q + 1 + 1 := ⟨n - 2, by omega⟩
    rw [qgc]
    by_cases c : b = 0
    · rw [if_pos c, c, Nat.gcd_zero_right]
    · rw [if_neg c, qgc, gcd_st]
      have l := Nat.mod_lt a (show 0 < b by omega)
      by_cases c2 : a % b = 0
      · rw [if_pos c2, c2, Nat.gcd_zero_right]
      · rw [if_neg c2, gcd_st]
        refine ih n _ _ ?_ (by omega)
        generalize a % b = r at l c2 ⊢
        have e := Nat.div_add_mod' b r
        have l2 := Nat.mod_lt b (show 0 < r by omega)
        have q1 : 1 ≤ b / r := (Nat.le_div_iff_mul_le (by omega)).mpr (by omega)
        have q2 : r ≤ b / r * r := Nat.le_mul_of_pos_left r q1
        rw [Nat.pow_succ] at hb
        omega
theorem pc_gcd : ∀ n a b s, s + n ≤ 1000 → a < 2 ^ 62 → b < 2 ^ 62 → fn_X8_commonDivisor_L15 n (qL a) (qL b) (nI s) = (qgc n a b).map qL := by
  intro n
  induction n with
  | zero => intro a b s _ _ _; rfl
  | succ n ih =>
    intro a b s hs ha hb
    rw [fn_X8_commonDivisor_L15, if_neg (nI_ge (by omega) (by decide)), qgc]
    by_cases c : b = 0
    · rw [if_pos ((lg_cmp_eq _ _).mpr (by rw [c]; rfl)), if_pos c]; rfl
    · have nz : ¬ qL b = 0 := by
        intro q
        have := ql_ti (n := b) (by omega)
        rw [q, show (0 : Int64).toInt = 0 from by decide] at this
        omega
      rw [if_neg (fun q => nz ((lg_cmp_eq _ _).mp q)), if_neg nz, if_neg c, ql_rem ha (by omega) hb, nI_add]
      have := Nat.mod_lt a (show 0 < b by omega)
      exact ih b (a % b) (s + 1) (by omega) hb (by omega)
theorem pm_gcd (x0 x2 : Int64) (x4 : Int32) : ∀ n a b, a < 2 ^ 62 → b < 2 ^ 62 → fn_X9_lowest_L9 x0 x2 x4 n (qL a) (qL b) = (qgc n a b).map qL := by
  intro n
  induction n with
  | zero => intro a b _ _; rfl
  | succ n ih =>
    intro a b ha hb
    rw [fn_X9_lowest_L9, qgc]
    by_cases c : b = 0
    · rw [if_pos ((lg_cmp_eq _ _).mpr (by rw [c]; rfl)), if_pos c]; rfl
    · have nz : ¬ qL b = 0 := by
        intro q
        have := ql_ti (n := b) (by omega)
        rw [q, show (0 : Int64).toInt = 0 from by decide] at this
        omega
      rw [if_neg (fun q => nz ((lg_cmp_eq _ _).mp q)), if_neg nz, if_neg c, ql_rem ha (by omega) hb]
      have := Nat.mod_lt a (show 0 < b by omega)
      exact ih b (a % b) hb (by omega)
theorem ql_abs {U : Int64} (h1 : -(2 ^ 62) < U.toInt) (h2 : U.toInt < 2 ^ 62) : (if 0 < U then U else -U) = qL U.toInt.natAbs ∧ fn_X9_size U = some (qL U.toInt.natAbs) := by
  have z : (0 : Int64).toInt = 0 := by decide
  have hp : 0 ≤ U.toInt → U = qL U.toInt.natAbs := by
    intro h
    apply Int64.toInt_inj.mp
    rw [ql_ti (by omega)]
    omega
  have hn : U.toInt ≤ 0 → -U = qL U.toInt.natAbs := by
    intro h
    apply Int64.toInt_inj.mp
    rw [ql_ti (by omega), Int64.toInt_neg, Int.bmod_eq_of_le (by omega) (by omega)]
    omega
  constructor
  · by_cases c : 0 < U
    · rw [if_pos c]
      have := Int64.lt_iff_toInt_lt.mp c
      exact hp (by omega)
    · rw [if_neg c]
      have : ¬ (0 : Int64).toInt < U.toInt := fun q => c (Int64.lt_iff_toInt_lt.mpr q)
      exact hn (by omega)
  · unfold fn_X9_size
    by_cases c : 0 ≤ lg_cmp U 0
    · rw [if_pos c]
      have := Int64.le_iff_toInt_le.mp ((lg_cmp_ge _ _).mp c)
      rw [← hp (by omega)]
    · rw [if_neg c]
      have : ¬ (0 : Int64).toInt ≤ U.toInt := fun q => c ((lg_cmp_ge _ _).mpr (Int64.le_iff_toInt_le.mpr q))
      rw [← hn (by omega)]
def qun : Nat → Int64
  | 0 => 1
  | e + 1 => qun e * (10 : Int64)
theorem qun_eq : ∀ e, qun e = qL (10 ^ e) := by
  intro e
  induction e with
  | zero => rfl
  | succ e ih =>
    rw [qun, ih, Nat.pow_succ]
    exact (Int64.ofNat_mul _ _).symm
theorem qun_ti {e : Nat} (h : e ≤ 8) : (qun e).toInt = ((10 ^ e : Nat) : Int) := by
  have : 10 ^ e ≤ 10 ^ 8 := Nat.pow_le_pow_right (by decide) h
  rw [qun_eq, ql_ti (by omega)]
def qsn (w : Nat → Int64) (t x : Nat) : Int64 := if x = 0 then (10 : Int64) * w 0 else (nI t).toInt64 * w (x - 1) + (nI 10 - nI t).toInt64 * w (if x + 1 < 9 then x + 1 else 9)
def qmo (w : Nat → Int64) (t g : Nat) (al : Int64) (x : Nat) : Int64 := (nI g).toInt64 * al + qsn w t (x + 1)
def qnx (w : Nat → Int64) (t g : Nat) (al : Int64) (x : Nat) : Int64 := if 9 ≤ x then qsn w t x else if lg_cmp (qmo w t g al x) (qsn w t x) ≤ 0 then qsn w t x else qmo w t g al x
def qbo (w : Nat → Int64) (t g : Nat) (al : Int64) (x : Nat) : Bool := decide (x < 9) && decide (¬ lg_cmp (qmo w t g al x) (qsn w t x) ≤ 0)
def qfw (c t g : Nat) : Nat → Nat → Int64
  | 0 => fun x => (-nI c * nI x).toInt64
  | e + 1 => qnx (qfw c t g e) t g (qun (e + 1))
def qfb (c t g : Nat) : Nat → Nat → Bool
  | 0 => fun _ => false
  | e + 1 => qbo (qfw c t g e) t g (qun (e + 1))
def qCe : Nat → Nat
  | 0 => 81
  | e + 1 => 10 * qCe e + 9 * 10 ^ (e + 1)
theorem qCe_le : ∀ e, e < 9 → qCe e ≤ 2 ^ 40 := by decide
theorem ql_mul {t : Nat} (ht : t ≤ 10) {a : Int64} {C : Nat} (hC : C ≤ 2 ^ 50) (h1 : -(C : Int) ≤ a.toInt) (h2 : a.toInt ≤ C) : ((nI t).toInt64 * a).toInt = t * a.toInt := by
  rw [Int64.toInt_mul, Int32.toInt_toInt64, nI_toInt (by omega)]
  rcases (show t = 0 ∨ t = 1 ∨ t = 2 ∨ t = 3 ∨ t = 4 ∨ t = 5 ∨ t = 6 ∨ t = 7 ∨ t = 8 ∨ t = 9 ∨ t = 10 by omega) with rfl | rfl | rfl | rfl | rfl | rfl | rfl | rfl | rfl | rfl | rfl <;> exact Int.bmod_eq_of_le (by omega) (by omega)
theorem qsn_b {w : Nat → Int64} {t C : Nat} (ht : t ≤ 10) (hC : C ≤ 2 ^ 45) (h : ∀ x, x ≤ 9 → -(C : Int) ≤ (w x).toInt ∧ (w x).toInt ≤ C) {x : Nat} (hx : x ≤ 9) : -((10 * C : Nat) : Int) ≤ (qsn w t x).toInt ∧ (qsn w t x).toInt ≤ ((10 * C : Nat) : Int) := by
  unfold qsn
  by_cases c : x = 0
  · rw [if_pos c, show (10 : Int64) = (nI 10).toInt64 from by decide]
    have b := h 0 (by decide)
    rw [ql_mul (by decide) (show C ≤ 2 ^ 50 by omega) b.1 b.2]
    omega
  · rw [if_neg c, pk_sub (by omega)]
    have b1 := h (x - 1) (by omega)
    have b2 := h (if x + 1 < 9 then x + 1 else 9) (by split <;> omega)
    rw [Int64.toInt_add, ql_mul ht (show C ≤ 2 ^ 50 by omega) b1.1 b1.2, ql_mul (show 10 - t ≤ 10 by omega) (show C ≤ 2 ^ 50 by omega) b2.1 b2.2]
    generalize (w (x - 1)).toInt = u at b1 ⊢
    generalize (w (if x + 1 < 9 then x + 1 else 9)).toInt = v at b2 ⊢
    rcases (show t = 0 ∨ t = 1 ∨ t = 2 ∨ t = 3 ∨ t = 4 ∨ t = 5 ∨ t = 6 ∨ t = 7 ∨ t = 8 ∨ t = 9 ∨ t = 10 by omega) with rfl | rfl | rfl | rfl | rfl | rfl | rfl | rfl | rfl | rfl | rfl <;> (rw [Int.bmod_eq_of_le (by omega) (by omega)]; omega)
theorem qfw_b {c t g : Nat} (hc : c ≤ 9) (ht : t ≤ 10) (hg : g ≤ 9) : ∀ e, e ≤ 8 → ∀ x, x ≤ 9 → -(qCe e : Int) ≤ (qfw c t g e x).toInt ∧ (qfw c t g e x).toInt ≤ qCe e := by
  intro e
  induction e with
  | zero =>
    intro _ x hx
    have : ∀ c, c < 10 → ∀ x, x < 10 → -81 ≤ ((-nI c * nI x).toInt64).toInt ∧ ((-nI c * nI x).toInt64).toInt ≤ 81 := by decide +kernel
    exact this c (by omega) x (by omega)
  | succ e ih =>
    intro he x hx
    have b := ih (by omega)
    have l := qCe_le e (by omega)
    have l2 := qCe_le (e + 1) (by omega)
    have s := fun y (hy : y ≤ 9) => qsn_b ht (show qCe e ≤ 2 ^ 45 by omega) b (x := y) hy
    have p : 10 ^ (e + 1) ≤ 10 ^ 8 := Nat.pow_le_pow_right (by decide) he
    have ut := qun_ti he
    obtain ⟨P, hP⟩ : ∃ P, P = 10 ^ (e + 1) := ⟨_, rfl⟩
    rw [← hP] at ut p
    have gm : ((nI g).toInt64 * qun (e + 1)).toInt = g * ((P : Nat) : Int) := by
      rw [ql_mul (show g ≤ 10 by omega) (C := P) (by omega) (by omega) (by omega), ut]
    have gb : (0 : Int) ≤ g * ((P : Nat) : Int) ∧ g * ((P : Nat) : Int) ≤ ((9 * P : Nat) : Int) := by
      rw [← Int.natCast_mul]
      have := Nat.mul_le_mul_right (P) hg
      omega
    rw [qCe, ← hP]
    rw [qCe, ← hP] at l2
    have sm : ∀ y, y ≤ 9 → -((10 * qCe e + 9 * P : Nat) : Int) ≤ (qsn (qfw c t g e) t y).toInt ∧ (qsn (qfw c t g e) t y).toInt ≤ ((10 * qCe e + 9 * P : Nat) : Int) := fun y hy => by
      have := s y hy
      omega
    show -((10 * qCe e + 9 * P : Nat) : Int) ≤ (qnx (qfw c t g e) t g (qun (e + 1)) x).toInt ∧ (qnx (qfw c t g e) t g (qun (e + 1)) x).toInt ≤ ((10 * qCe e + 9 * P : Nat) : Int)
    unfold qnx
    split
    · exact sm x hx
    · split
      · exact sm x hx
      · rename_i c1 c2
        have sx := s (x + 1) (by omega)
        unfold qmo
        rw [Int64.toInt_add, gm]
        generalize (g : Int) * ((P : Nat) : Int) = G at gb ⊢
        generalize (qsn (qfw c t g e) t (x + 1)).toInt = S at sx ⊢
        rw [Int.bmod_eq_of_le (by omega) (by omega)]
        omega
