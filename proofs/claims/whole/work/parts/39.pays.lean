def qn4 (V : pV) (p : Nat) : Nat := pnd V p 0 + pnd V p 1 + pnd V p 2 + pnd V p 3
def qps (V : pV) (m : Nat) : Nat → Nat
  | 0 => 0
  | i + 1 => qps V m i + (if m.testBit i then qw V i * qn4 V i else 0)
theorem pl_pay13 {σ : dc_HP} {V : pV} (h : pC σ 1 V) {s p : Nat} (hs : s < 64) (hp : p < 6) (a : Nat) : fn_X0_payOfSet_L13 σ 1 (nI s) (nI p) 200 (nI a) (nI 0) = some (nI (a + (if s.testBit p then qw V p * qn4 V p else 0))) := by
  have st : ∀ i m a, i < 4 → fn_X0_payOfSet_L13 σ 1 (nI s) (nI p) (m + 1) (nI a) (nI i) = fn_X0_payOfSet_L13 σ 1 (nI s) (nI p) m (nI (a + (if s.testBit p then 1 else 0) * qw V p * pnd V p i)) (nI (i + 1)) := by
    intro i m a hi
    rw [fn_X0_payOfSet_L13, if_neg (nI_ge hi (by decide)), fn_X8_bit, px_bit (by omega) (by omega), Option.bind_some, pc_worthOf h hp, Option.bind_some, pc_needOf h hp hi, Option.bind_some, pk_mul, pk_mul, nI_add, nI_add]
  rw [show (200 : Nat) = 199 + 1 from rfl, st 0 199 _ (by decide), show (199 : Nat) = 198 + 1 from rfl, st 1 198 _ (by decide), show (198 : Nat) = 197 + 1 from rfl, st 2 197 _ (by decide), show (197 : Nat) = 196 + 1 from rfl, st 3 196 _ (by decide), show (196 : Nat) = 195 + 1 from rfl, fn_X0_payOfSet_L13, if_pos (nI_le (Nat.le_refl _) (by decide))]
  congr 2
  unfold qn4
  cases s.testBit p with
  | false => simp
  | true => simp [Nat.mul_add, Nat.add_assoc]
theorem pl_pays {σ : dc_HP} {V : pV} (h : pC σ 1 V) {s : Nat} (hs : s < 64) : ∀ d i m, i + d = 6 → d < m → fn_X0_payOfSet_L4 σ 1 (nI s) m (nI (qps V s i)) (nI i) = some (nI (qps V s 6)) := by
  intro d
  induction d with
  | zero =>
    intro i m hi hm
    obtain ⟨m, rfl⟩ : ∃ n, m = n + 1 := ⟨m - 1, by omega⟩
    obtain rfl : i = 6 := by omega
    unfold fn_X0_payOfSet_L4
    rw [if_pos (nI_le (Nat.le_refl _) (by decide))]
  | succ d ih =>
    intro i m hi hm
    obtain ⟨m, rfl⟩ : ∃ n, m = n + 1 := ⟨m - 1, by omega⟩
    unfold fn_X0_payOfSet_L4
    rw [if_neg (nI_ge (by omega) (by decide)), pl_pay13 h hs (by omega), Option.bind_some, nI_add]
    exact ih (i + 1) m (by omega) (by omega)
theorem pc_pays {σ : dc_HP} {V : pV} (h : pC σ 1 V) {s : Nat} (hs : s < 64) : fn_X0_payOfSet σ 1 (nI s) = some (nI (qps V s 6)) := by
  unfold fn_X0_payOfSet
  have e := pl_pays h hs 6 0 200 rfl (by decide)
  rw [show qps V s 0 = 0 from rfl] at e
  rw [e, Option.bind_some]
