/-! numbers as nI, masks of a predicate -/
theorem px_and (a b : Nat) : nI a &&& nI b = nI (a &&& b) := by
  apply Int32.toBitVec_inj.1
  show BitVec.ofNat 32 a &&& BitVec.ofNat 32 b = BitVec.ofNat 32 (a &&& b)
  apply BitVec.eq_of_getLsbD_eq
  intro i hi
  simp [hi]
theorem px_or (a b : Nat) : nI a ||| nI b = nI (a ||| b) := by
  apply Int32.toBitVec_inj.1
  show BitVec.ofNat 32 a ||| BitVec.ofNat 32 b = BitVec.ofNat 32 (a ||| b)
  apply BitVec.eq_of_getLsbD_eq
  intro i hi
  simp [hi]
theorem px_xor (a b : Nat) : nI a ^^^ nI b = nI (a ^^^ b) := by
  apply Int32.toBitVec_inj.1
  show BitVec.ofNat 32 a ^^^ BitVec.ofNat 32 b = BitVec.ofNat 32 (a ^^^ b)
  apply BitVec.eq_of_getLsbD_eq
  intro i hi
  simp [hi]
theorem px_m1 : (-1 : Int32) = nI 4294967295 := by decide
theorem px_s : ∀ n, n < 32 → ((nI n &&& 31).toBitVec.smod 32).toNat = n := by decide +kernel
theorem px_shl1 : ∀ k, k < 31 → nI 1 <<< (nI k &&& 31) = nI (2 ^ k) := by decide +kernel
theorem px_bit {m k : Nat} (hm : m < 2 ^ 31) (hk : k < 31) : (nI m >>> (nI k &&& 31)) &&& nI 1 = nI (if m.testBit k then 1 else 0) := by
  rw [pk_shrN hm _ k (px_s k (by omega)), px_and]
  congr 1
  rw [Nat.and_one_is_mod, Nat.testBit_eq_decide_div_mod_eq]
  by_cases h : m / 2 ^ k % 2 = 1 <;> simp [h]
  omega
theorem px_eq0 {a : Nat} (ha : a < 2 ^ 31) : nI a = 0 ↔ a = 0 := by
  rw [← nI_0]; exact nI_eq ha (by decide)
theorem px_le0 {a : Nat} (ha : a < 2 ^ 31) : nI a ≤ 0 ↔ a = 0 := by
  rw [← nI_0, nI_leI ha (by decide)]; omega
theorem px_lt0 {a : Nat} (ha : a < 2 ^ 31) : nI a < 0 ↔ False := by
  rw [← nI_0, nI_ltI ha (by decide)]; simp
theorem px_0lt {a : Nat} (ha : a < 2 ^ 31) : 0 < nI a ↔ 0 < a := by
  rw [← nI_0, nI_ltI (by decide) ha]
theorem px_0le {a : Nat} (ha : a < 2 ^ 31) : 0 ≤ nI a ↔ True := by
  rw [← nI_0, nI_leI (by decide) ha]; simp
theorem px_g {k N : Nat} (h : k < N) (hN : N < 2 ^ 31) : (nI k < 0 ∨ N ≤ (nI k).toNatClampNeg) ↔ False := ⟨fun q => nI_in h hN q, fun q => q.elim⟩
theorem px_gg {α : Type} {k N : Nat} {a b : α} (h : k < N) (hN : N < 2 ^ 31) : (if nI k < 0 ∨ N ≤ (nI k).toNatClampNeg then a else b) = b := if_neg (nI_in h hN)
theorem px_of {x : Int32} {a : Nat} (ha : a < 2 ^ 31) (h0 : 0 ≤ x.toInt) (h1 : x.toInt ≤ a) : ∃ k, k ≤ a ∧ x = nI k := by
  refine ⟨x.toInt.toNat, by omega, ?_⟩
  apply Int32.toInt_inj.mp
  rw [nI_toInt (by omega)]
  omega
theorem px_ti {a : Nat} (ha : a < 2 ^ 31) : (nI a).toInt = (a : Int) := nI_toInt ha
theorem px_ni {x : Int32} {a : Nat} (ha : a < 2 ^ 31) : x = nI a ↔ x.toInt = a := by
  rw [← Int32.toInt_inj, nI_toInt ha]
/-- a range, in whole numbers -/
def pr (x : Int32) (lo hi : Nat) : Prop := (lo : Int) ≤ x.toInt ∧ x.toInt ≤ hi
theorem pr_dec (x : Int32) (lo hi : Nat) : pr x lo hi ∨ ¬ pr x lo hi := Classical.em _
theorem px_within {x : Int32} {lo hi : Nat} (hl : lo < 2 ^ 31) (hh : hi < 2 ^ 31) : (pr x lo hi → fn_X8_within x (nI lo) (nI hi) = some (nI 1)) ∧ (¬ pr x lo hi → fn_X8_within x (nI lo) (nI hi) = some (nI 0)) := by
  unfold fn_X8_within pr
  simp only [Int32.lt_iff_toInt_lt, nI_toInt hl, nI_toInt hh]
  refine ⟨fun h => ?_, fun h => ?_⟩
  · rw [if_neg (by omega), if_neg (by omega)]
  · by_cases h1 : x.toInt < (lo : Int)
    · rw [if_pos h1]
    · rw [if_neg h1, if_pos (by omega)]
theorem px_withinN {a lo hi : Nat} (ha : a < 2 ^ 31) (hl : lo < 2 ^ 31) (hh : hi < 2 ^ 31) : fn_X8_within (nI a) (nI lo) (nI hi) = some (nI (if lo ≤ a ∧ a ≤ hi then 1 else 0)) := by
  by_cases h : lo ≤ a ∧ a ≤ hi
  · rw [if_pos h, (px_within hl hh).1 (by unfold pr; rw [nI_toInt ha]; omega)]
  · rw [if_neg h, (px_within hl hh).2 (by unfold pr; rw [nI_toInt ha]; omega)]
theorem px_in {x : Int32} {lo hi : Nat} {L H : Int64} (hl : L.toInt = lo) (hh : H.toInt = hi) : (pr x lo hi → fn_X9_in x.toInt64 L H = some (nI 1)) ∧ (¬ pr x lo hi → fn_X9_in x.toInt64 L H = some (nI 0)) := by
  have e : x.toInt64.toInt = x.toInt := Int32.toInt_toInt64 x
  have c1 : ∀ a b : Int64, lg_cmp a b < 0 ↔ a.toInt < b.toInt := by
    intro a b
    unfold lg_cmp
    by_cases h1 : a > b
    · rw [if_pos h1]
      have : b.toInt < a.toInt := Int64.lt_iff_toInt_lt.mp h1
      constructor
      · intro h; exact absurd h (by decide)
      · intro h; omega
    · rw [if_neg h1]
      have h1' : ¬ b.toInt < a.toInt := fun q => h1 (Int64.lt_iff_toInt_lt.mpr q)
      by_cases h2 : a = b
      · rw [if_pos h2, h2]
        constructor
        · intro h; exact absurd h (by decide)
        · intro h; omega
      · rw [if_neg h2]
        have h2' : ¬ a.toInt = b.toInt := fun q => h2 (Int64.toInt_inj.mp q)
        constructor
        · intro h; omega
        · intro h; decide
  have c2 : ∀ a b : Int64, 0 < lg_cmp a b ↔ b.toInt < a.toInt := by
    intro a b
    unfold lg_cmp
    by_cases h1 : a > b
    · rw [if_pos h1]
      have : b.toInt < a.toInt := Int64.lt_iff_toInt_lt.mp h1
      constructor
      · intro h; exact this
      · intro h; decide
    · rw [if_neg h1]
      have h1' : ¬ b.toInt < a.toInt := fun q => h1 (Int64.lt_iff_toInt_lt.mpr q)
      by_cases h2 : a = b
      · rw [if_pos h2]
        constructor
        · intro h; exact absurd h (by decide)
        · intro h; omega
      · rw [if_neg h2]
        constructor
        · intro h; exact absurd h (by decide)
        · intro h; omega
  unfold fn_X9_in pr
  simp only [c1, c2, e, hl, hh]
  refine ⟨fun h => ?_, fun h => ?_⟩
  · rw [if_neg (by omega), if_neg (by omega)]
  · by_cases h1 : x.toInt < (lo : Int)
    · rw [if_pos h1]
    · rw [if_neg h1, if_pos (by omega)]
theorem px_inN {a lo hi : Nat} {L H : Int64} (ha : a < 2 ^ 31) (hl : L.toInt = lo) (hh : H.toInt = hi) : fn_X9_in (nI a).toInt64 L H = some (nI (if lo ≤ a ∧ a ≤ hi then 1 else 0)) := by
  by_cases h : lo ≤ a ∧ a ≤ hi
  · rw [if_pos h, (px_in hl hh).1 (by unfold pr; rw [nI_toInt ha]; omega)]
  · rw [if_neg h, (px_in hl hh).2 (by unfold pr; rw [nI_toInt ha]; omega)]
theorem px_div10 {a : Nat} (ha : a < 2 ^ 31) : nI a / nI 10 = nI (a / 10) := pk_div ha (by decide) (by decide)
theorem px_rem10 {a : Nat} (ha : a < 2 ^ 31) : nI a - nI a / nI 10 * nI 10 = nI (a % 10) := pk_rem ha (by decide) (by decide)
/-! masks -/
def pm (f : Nat → Bool) : Nat → Nat
  | 0 => 0
  | n + 1 => pm f n ||| (if f n then 2 ^ n else 0)
def pc (f : Nat → Bool) : Nat → Nat
  | 0 => 0
  | n + 1 => pc f n + (if f n then 1 else 0)
theorem pm_bit (f : Nat → Bool) (n k : Nat) : (pm f n).testBit k = (decide (k < n) && f k) := by
  induction n with
  | zero => simp [pm]
  | succ n ih =>
    rw [pm, Nat.testBit_or, ih]
    by_cases hk : k = n
    · subst hk
      by_cases hf : f k <;> simp [hf]
    · have : (if f n = true then 2 ^ n else 0 : Nat).testBit k = false := by
        by_cases hf : f n
        · simp [hf, Nat.testBit_two_pow]; omega
        · simp [hf]
      rw [this]
      have e : decide (k < n + 1) = decide (k < n) := by
        rw [decide_eq_decide]; omega
      rw [e, Bool.or_false]
theorem pm_lt (f : Nat → Bool) (n : Nat) : pm f n < 2 ^ n := by
  induction n with
  | zero => simp [pm]
  | succ n ih =>
    rw [pm]
    apply Nat.or_lt_two_pow
    · exact Nat.lt_trans ih (Nat.pow_lt_pow_right (by decide) (Nat.lt_succ_self n))
    · by_cases hf : f n
      · rw [if_pos hf]; exact Nat.pow_lt_pow_right (by decide) (Nat.lt_succ_self n)
      · rw [if_neg hf]; exact Nat.two_pow_pos _
theorem pm_lt31 (f : Nat → Bool) {n : Nat} (hn : n ≤ 8) : pm f n < 2 ^ 31 := Nat.lt_of_lt_of_le (pm_lt f n) (Nat.pow_le_pow_right (by decide) (by omega))
theorem pm_ext {n m : Nat} {f : Nat → Bool} (hm : m < 2 ^ n) (h : ∀ k, k < n → m.testBit k = f k) : m = pm f n := by
  apply Nat.eq_of_testBit_eq
  intro k
  rw [pm_bit]
  by_cases hk : k < n
  · simp [hk, h k hk]
  · have : m.testBit k = false := Nat.testBit_lt_two_pow (Nat.lt_of_lt_of_le hm (Nat.pow_le_pow_right (by decide) (by omega)))
    simp [this, hk]
theorem pm_congr {n : Nat} {f g : Nat → Bool} (h : ∀ k, k < n → f k = g k) : pm f n = pm g n := pm_ext (pm_lt f n) (fun k hk => by rw [pm_bit]; simp [hk, h k hk])
theorem pm_inj {n : Nat} {f g : Nat → Bool} (h : pm f n = pm g n) (k : Nat) (hk : k < n) : f k = g k := by
  have := congrArg (fun m => m.testBit k) h
  simpa [pm_bit, hk] using this
theorem pc_congr {n : Nat} {f g : Nat → Bool} (h : ∀ k, k < n → f k = g k) : pc f n = pc g n := by
  induction n with
  | zero => rfl
  | succ n ih => rw [pc, pc, ih (fun k hk => h k (by omega)), h n (by omega)]
theorem pc_le (f : Nat → Bool) (n : Nat) : pc f n ≤ n := by
  induction n with
  | zero => simp [pc]
  | succ n ih =>
    rw [pc]
    split <;> omega
theorem px_pmbit (f : Nat → Bool) {n k : Nat} (hn : n ≤ 8) (hk : k < n) : (nI (pm f n) >>> (nI k &&& 31)) &&& nI 1 = nI (if f k then 1 else 0) := by
  rw [px_bit (pm_lt31 f hn) (by omega), pm_bit]
  simp [hk]
theorem px_set (f : Nat → Bool) {n k : Nat} (hn : n ≤ 8) (hk : k < n) : nI (pm f n) ||| (nI 1 <<< (nI k &&& 31)) = nI (pm (fun j => decide (j = k) || f j) n) := by
  rw [px_shl1 k (by omega), px_or]
  congr 1
  apply pm_ext
  · exact Nat.or_lt_two_pow (pm_lt f n) (Nat.pow_lt_pow_right (by decide) hk)
  · intro j hj
    rw [Nat.testBit_or, pm_bit, Nat.testBit_two_pow]
    simp [hj, Bool.or_comm, eq_comm]
theorem px_clr (f : Nat → Bool) {n k : Nat} (hn : n ≤ 8) (hk : k < n) : nI (pm f n) &&& ((nI 1 <<< (nI k &&& 31)) ^^^ (-1 : Int32)) = nI (pm (fun j => !decide (j = k) && f j) n) := by
  rw [px_shl1 k (by omega), px_m1, px_xor, px_and]
  congr 1
  apply pm_ext
  · exact Nat.lt_of_le_of_lt Nat.and_le_left (pm_lt f n)
  · intro j hj
    rw [Nat.testBit_and, pm_bit, Nat.testBit_xor, Nat.testBit_two_pow, show (4294967295 : Nat) = 2 ^ 32 - 1 from rfl, Nat.testBit_two_pow_sub_one]
    have : decide (j < 32) = true := by simp; omega
    simp only [this, hj, decide_true, Bool.true_and, Bool.xor_true]
    rw [Bool.and_comm]
    congr 2
    simp [eq_comm]
theorem px_tog (f : Nat → Bool) {n k : Nat} (hn : n ≤ 8) (hk : k < n) : nI (pm f n) ^^^ (nI 1 <<< (nI k &&& 31)) = nI (pm (fun j => if j = k then !f j else f j) n) := by
  rw [px_shl1 k (by omega), px_xor]
  congr 1
  apply pm_ext
  · exact Nat.xor_lt_two_pow (pm_lt f n) (Nat.pow_lt_pow_right (by decide) hk)
  · intro j hj
    rw [Nat.testBit_xor, pm_bit, Nat.testBit_two_pow]
    by_cases e : j = k
    · subst e; simp [hj]
    · have : decide (k = j) = false := by simp; omega
      simp [hj, e, this]
theorem px_pand (f g : Nat → Bool) (n : Nat) : nI (pm f n) &&& nI (pm g n) = nI (pm (fun j => f j && g j) n) := by
  rw [px_and]
  congr 1
  apply pm_ext (Nat.lt_of_le_of_lt Nat.and_le_left (pm_lt f n))
  intro j hj
  rw [Nat.testBit_and, pm_bit, pm_bit]
  simp [hj]
theorem px_por (f g : Nat → Bool) (n : Nat) : nI (pm f n) ||| nI (pm g n) = nI (pm (fun j => f j || g j) n) := by
  rw [px_or]
  congr 1
  apply pm_ext (Nat.or_lt_two_pow (pm_lt f n) (pm_lt g n))
  intro j hj
  rw [Nat.testBit_or, pm_bit, pm_bit]
  simp [hj]
theorem px_pdiff (f g : Nat → Bool) {n : Nat} (hn : n ≤ 8) : nI (pm f n) &&& (nI (pm g n) ^^^ (-1 : Int32)) = nI (pm (fun j => f j && !g j) n) := by
  rw [px_m1, px_xor, px_and]
  congr 1
  apply pm_ext (Nat.lt_of_le_of_lt Nat.and_le_left (pm_lt f n))
  intro j hj
  rw [Nat.testBit_and, pm_bit, Nat.testBit_xor, pm_bit, show (4294967295 : Nat) = 2 ^ 32 - 1 from rfl, Nat.testBit_two_pow_sub_one]
  have : decide (j < 32) = true := by simp; omega
  simp [this, hj]
theorem px_p0 (f : Nat → Bool) {n : Nat} (hn : n ≤ 8) : nI (pm f n) = 0 ↔ ∀ k, k < n → f k = false := by
  rw [px_eq0 (pm_lt31 f hn)]
  constructor
  · intro h k hk
    have := congrArg (fun m => m.testBit k) h
    simpa [pm_bit, hk] using this
  · intro h
    apply Nat.eq_of_testBit_eq
    intro k
    rw [pm_bit]
    by_cases hk : k < n
    · simp [h k hk]
    · simp [hk]
def po (b0 b1 b2 b3 b4 b5 b6 b7 : Bool) : Nat → Bool := fun k => match k with
  | 0 => b0
  | 1 => b1
  | 2 => b2
  | 3 => b3
  | 4 => b4
  | 5 => b5
  | 6 => b6
  | _ => b7
theorem po_eq (f : Nat → Bool) : ∀ k, k < 8 → po (f 0) (f 1) (f 2) (f 3) (f 4) (f 5) (f 6) (f 7) k = f k := by
  intro k hk
  match k, hk with
  | 0, _ => rfl
  | 1, _ => rfl
  | 2, _ => rfl
  | 3, _ => rfl
  | 4, _ => rfl
  | 5, _ => rfl
  | 6, _ => rfl
  | 7, _ => rfl
  | k + 8, h => omega
set_option maxRecDepth 100000 in
theorem px_cnt8 : ∀ b0 b1 b2 b3 b4 b5 b6 b7 : Bool, fn_J6_bitCount_0f7a4 (nI (pm (po b0 b1 b2 b3 b4 b5 b6 b7) 8)) = some (nI (pc (po b0 b1 b2 b3 b4 b5 b6 b7) 8)) ∧ fn_X9_bitsOf (nI (pm (po b0 b1 b2 b3 b4 b5 b6 b7) 8)) = some (nI (pc (po b0 b1 b2 b3 b4 b5 b6 b7) 8)) := by decide +kernel
theorem px_cnt (f : Nat → Bool) : fn_J6_bitCount_0f7a4 (nI (pm f 8)) = some (nI (pc f 8)) ∧ fn_X9_bitsOf (nI (pm f 8)) = some (nI (pc f 8)) := by
  have h := px_cnt8 (f 0) (f 1) (f 2) (f 3) (f 4) (f 5) (f 6) (f 7)
  rw [pm_congr (po_eq f), pc_congr (po_eq f)] at h
  exact h
/-- a mask of fewer places is one of eight -/
theorem pm_8 (f : Nat → Bool) {n : Nat} (hn : n ≤ 8) : pm f n = pm (fun k => decide (k < n) && f k) 8 := by
  apply pm_ext (Nat.lt_of_lt_of_le (pm_lt f n) (Nat.pow_le_pow_right (by decide) hn))
  intro k hk
  rw [pm_bit]
theorem pc_8 (f : Nat → Bool) : ∀ n d, pc (fun k => decide (k < n) && f k) (n + d) = pc f n := by
  intro n d
  induction d with
  | zero =>
    apply pc_congr
    intro k hk
    have : k < n := by omega
    simp [this]
  | succ d ih =>
    rw [Nat.add_succ, pc, ih]
    have : ¬ n + d < n := by omega
    simp [this]
theorem px_cntn (f : Nat → Bool) {n : Nat} (hn : n ≤ 8) : fn_J6_bitCount_0f7a4 (nI (pm f n)) = some (nI (pc f n)) ∧ fn_X9_bitsOf (nI (pm f n)) = some (nI (pc f n)) := by
  have h := px_cnt (fun k => decide (k < n) && f k)
  rw [← pm_8 f hn] at h
  have e := pc_8 f n (8 - n)
  rw [show n + (8 - n) = 8 by omega] at e
  rw [e] at h
  exact h
