/-! nights: the reference -/
def W68 (c _j : Nat) : Prop := c = 68
theorem pm_for {σ : dc_HP} {V : pV} (h : pM σ V) (ho : pOk V) {k p : Nat} (hk : k < 8) (ht : pth V k = true) (hp : p < 6) : fn_X9_isFor σ (nI p) (nI k) = some (nI (if qfv V (pvo V k) p = true then 1 else 0)) := by
  obtain ⟨_, _, _, _, _, _, h4, h5, _, _⟩ := h
  have hv := ho.2.1 k hk
  have hn := ho.2.2.2.1 p hp (pvo V k) hv
  unfold fn_X9_isFor
  rw [px_gg hk (by decide), nI_clamp (show k < 2 ^ 31 by omega), (h4 k hk ht).2.2.1, pk_mul, nI_add, px_gg (by omega) (by decide), nI_clamp (by omega), h5 p hp _ hv]
  unfold qfv
  by_cases c : pnd V p (pvo V k) = 0
  · rw [if_pos ((px_le0 (by omega)).mpr c), if_neg (by simp [c])]
  · rw [if_neg (fun q => c ((px_le0 (by omega)).mp q)), if_pos (by simp; omega)]
theorem px_bn {a w : Nat} (ha : a < 2 ^ 30) (hw : w < 2 ^ 30) : fn_X9_behindNight (nI a) (nI w) = some (nI (qbn a w)) := by
  unfold fn_X9_behindNight qbn
  by_cases c : a ≤ w
  · rw [if_pos (nI_le c (by omega)), show a - w = 0 by omega]
    decide
  · rw [if_neg (nI_ge (by omega) (by omega)), pk_sub (by omega), px_div10 (by omega), nI_add]
def q9n : Option Nat → Nat := fun o => match o with
  | none => 9990
  | some x => x
theorem q9_min {a b : Option Nat} (ha : ∀ x, a = some x → x ≤ 2200) (hb : ∀ x, b = some x → x ≤ 2200) : (if q9n a ≤ q9n b then q9n a else q9n b) = q9n (qmin a b) := by
  cases a with
  | none =>
    cases b with
    | none => rfl
    | some b =>
      have := hb b rfl
      rw [qmin, q9n, q9n]
      exact if_neg (by omega)
  | some a =>
    have := ha a rfl
    cases b with
    | none =>
      rw [qmin, q9n, q9n]
      exact if_pos (by omega)
    | some b =>
      rw [qmin, q9n, q9n]
      split <;> rfl
theorem q9_b {a : Option Nat} (ha : ∀ x, a = some x → x ≤ 2200) : q9n a < 2 ^ 31 := by
  cases a with
  | none => decide
  | some a => have := ha a rfl; show a < 2 ^ 31; omega
theorem qst_ok {f : Nat → Bool} {w : Nat → Nat} {T : Nat → Option Nat} {S k : Nat} (hS : S < 64) (hb : ∀ j, j < 64 → qok (T j)) : ∀ x, qsx f w T S k = some x → x ≤ 2200 := by
  intro x e
  unfold qsx at e
  split at e
  · exact qaf_ok (hb _ (Nat.lt_of_le_of_lt (Nat.sub_le _ _) hS)) x e
  · cases e
theorem pl_best {σ : dc_HP} {V : pV} (h : pM σ V) (ho : pOk V) {k : Nat} (hk : k < 8) (ht : pth V k = true) {S : Nat} (hS : S < 64) {T : Nat → Option Nat} (hT : ∀ j, j < S → σ.1 68 j = nI (q9n (T j))) (hb : ∀ j, j < 64 → qok (T j)) : ∀ d i n, i + d = 6 → d < n → fn_X9_bestOwed_L7 σ (nI k) (nI S) n (nI (q9n (qfold (qsx (qfv V (pvo V k)) (qw V) T S) i))) (nI i) = some (nI (q9n (qfold (qsx (qfv V (pvo V k)) (qw V) T S) 6))) := by
  intro d
  induction d with
  | zero =>
    intro i n hi hn
    obtain ⟨m, rfl⟩ : ∃ m, n = m + 1 := ⟨n - 1, by omega⟩
    obtain rfl : i = 6 := by omega
    unfold fn_X9_bestOwed_L7
    rw [if_pos (nI_le (Nat.le_refl _) (by decide))]
  | succ d ih =>
    intro i n hi hn
    obtain ⟨m, rfl⟩ : ∃ m, n = m + 1 := ⟨n - 1, by omega⟩
    have hi6 : i < 6 := by omega
    have g := ih (i + 1) m (by omega) (by omega)
    have bs : ∀ x, qsx (qfv V (pvo V k)) (qw V) T S i = some x → x ≤ 2200 := qst_ok hS hb
    have ba : ∀ x, qfold (qsx (qfv V (pvo V k)) (qw V) T S) i = some x → x ≤ 2200 := by
      intro x e
      obtain ⟨j, hj, e⟩ := qfold_of e
      exact qst_ok hS hb x e
    rw [qfold, ← q9_min ba bs] at g
    have e59 : σ.1 59 i * σ.1 60 i = nI (qw V i) := by
      obtain ⟨_, _, _, _, _, _, _, _, h6, h7⟩ := h
      rw [h6 i hi6, h7 i hi6, pk_mul]
      rfl
    have lt : (if S.testBit i = true then S - 2 ^ i else S) < 64 := by
      split
      · exact Nat.lt_of_le_of_lt (Nat.sub_le _ _) hS
      · exact hS
    unfold fn_X9_bestOwed_L7
    rw [if_neg (nI_ge hi6 (by decide)), px_mn S i hS hi6, px_gg lt (by decide), nI_clamp (by omega), px_bit (by omega) (by omega), nI_add, nI_clamp (by omega), px_gi hi6 (by decide), e59, pm_for h ho hk ht hi6]
    have mid : ∀ q : Option Int32, q = some (nI (q9n (qsx (qfv V (pvo V k)) (qw V) T S i))) → (q.bind (fun q66 => (if nI (q9n (qfold (qsx (qfv V (pvo V k)) (qw V) T S) i)) ≤ q66 then fn_X9_bestOwed_L7 σ (nI k) (nI S) m (nI (q9n (qfold (qsx (qfv V (pvo V k)) (qw V) T S) i))) (nI (i + 1)) else fn_X9_bestOwed_L7 σ (nI k) (nI S) m q66 (nI (i + 1))))) = some (nI (q9n (qfold (qsx (qfv V (pvo V k)) (qw V) T S) 6))) := by
      rintro _ rfl
      rw [Option.bind_some]
      by_cases c : q9n (qfold (qsx (qfv V (pvo V k)) (qw V) T S) i) ≤ q9n (qsx (qfv V (pvo V k)) (qw V) T S i)
      · rw [if_pos (nI_le c (q9_b bs))]
        rw [if_pos c] at g
        exact g
      · rw [if_neg (nI_ge (by omega) (q9_b ba))]
        rw [if_neg c] at g
        exact g
    cases c2 : S.testBit i with
    | false =>
      rw [if_neg (show ¬ nI (if (false : Bool) = true then 1 else 0) = nI 1 by decide), Option.bind_some, if_pos nI_0]
      refine mid _ ?_
      unfold qsx
      rw [c2]
      rfl
    | true =>
      obtain ⟨b1, b2, b3, b4⟩ := qbit S hS i hi6 c2
      have hq : qsx (qfv V (pvo V k)) (qw V) T S i = qaf (qfv V (pvo V k)) (qw V) i (T (S - 2 ^ i)) := by unfold qsx; rw [c2, if_pos rfl]
      rw [if_pos (show nI (if (true : Bool) = true then 1 else 0) = nI 1 by decide), if_pos rfl, hT _ b2, Option.bind_some]
      have hTb := hb (S - 2 ^ i) (by omega)
      have h9 : nI (q9n (T (S - 2 ^ i))) = nI (q9n (T (S - 2 ^ i))) := rfl
      cases c3 : qfv V (pvo V k) i with
      | false =>
        rw [if_pos (show nI (if (false : Bool) = true then 1 else 0) = 0 by decide), Option.bind_some, if_pos nI_0]
        refine mid _ ?_
        rw [hq]
        cases c4 : T (S - 2 ^ i) with
        | none => rfl
        | some y => rw [qaf, c3, if_neg (by decide)]; rfl
      | true =>
        rw [if_neg (show ¬ nI (if (true : Bool) = true then 1 else 0) = 0 by decide)]
        cases c4 : T (S - 2 ^ i) with
        | none =>
          rw [show q9n none = 9990 from rfl, if_pos (nI_le (Nat.le_refl _) (by decide)), Option.bind_some, if_pos nI_0]
          refine mid _ ?_
          rw [hq, c4]
          rfl
        | some y =>
          have hy := hTb y c4
          have hw := qw_le ho hi6
          rw [show q9n (some y) = y from rfl, if_neg (nI_ge (by omega) (by decide)), Option.bind_some, if_neg (show ¬ nI 1 = 0 by decide), px_bn (by omega) (by omega), Option.bind_some]
          refine mid _ ?_
          rw [px_gi hi6 (by decide), hq, c4, qaf, c3, if_pos rfl]
          rfl
theorem pm_best {σ : dc_HP} {V : pV} (h : pM σ V) (ho : pOk V) {k : Nat} (hk : k < 8) (ht : pth V k = true) {S : Nat} (hS : S < 64) {T : Nat → Option Nat} (hT : ∀ j, j < S → σ.1 68 j = nI (q9n (T j))) (hb : ∀ j, j < 64 → qok (T j)) : fn_X9_bestOwed σ (nI k) (nI S) = some (nI (q9n (qfold (qsx (qfv V (pvo V k)) (qw V) T S) 6))) := by
  have e := pl_best h ho hk ht hS hT hb 6 0 200 rfl (by decide)
  rw [show q9n (qfold (qsx (qfv V (pvo V k)) (qw V) T S) 0) = 9990 from rfl] at e
  unfold fn_X9_bestOwed
  rw [e, Option.bind_some]
theorem pM.w68 {σ τ : dc_HP} {V : pV} (h : pM σ V) (g : pW W68 σ τ) : pM τ V := h.other (fun j _ => g.1 55 j (by unfold W68; decide)) (fun c j _ _ => g.1 c j (by unfold W68; omega))
theorem pl_few {V : pV} (ho : pOk V) {k : Nat} (hk : k < 8) (ht : pth V k = true) {m c : Nat} (hm : m < 64) (hc : c < 2 ^ 31) (hb : ∀ j, j < 64 → qok (qT (qbb m (some c)) (qfv V (pvo V k)) (qw V) j)) : ∀ d i n σ, pM σ V → (∀ j, j < i → σ.1 68 j = nI (q9n (qT (qbb m (some c)) (qfv V (pvo V k)) (qw V) j))) → i + d = 64 → d < n → ∃ τ, fn_X9_fewestNights_L7 (nI k) (nI m) (nI c) n (qen (qfold (qz (qT (qbb m (some c)) (qfv V (pvo V k)) (qw V))) i)) (nI i) σ = some (qen (qnf (qT (qbb m (some c)) (qfv V (pvo V k)) (qw V))), τ) ∧ pW W68 σ τ := by
  intro d
  induction d with
  | zero =>
    intro i n σ hM hT hi hn
    obtain ⟨n, rfl⟩ : ∃ m, n = m + 1 := ⟨n - 1, by omega⟩
    obtain rfl : i = 64 := by omega
    unfold fn_X9_fewestNights_L7
    rw [if_pos (nI_le (Nat.le_refl _) (by decide))]
    exact ⟨σ, rfl, pW.rf⟩
  | succ d ih =>
    intro i n σ hM hT hi hn
    obtain ⟨n, rfl⟩ : ∃ m, n = m + 1 := ⟨n - 1, by omega⟩
    have hi6 : i < 64 := by omega
    have and : nI i &&& nI m = nI (i &&& m) := px_and i m
    have lt : i &&& m < 2 ^ 31 := Nat.lt_of_le_of_lt Nat.and_le_left (by omega)
    -- what behind the writing follows
    have fin : ∀ β q19, pW W68 σ β → β.1 68 i = nI (q9n (qT (qbb m (some c)) (qfv V (pvo V k)) (qw V) i)) → (∀ j, j < i → β.1 68 j = σ.1 68 j) → (q19 = nI 0 → qT (qbb m (some c)) (qfv V (pvo V k)) (qw V) i = none) →
        ∃ τ, ((if q19 = 0 then some (nI 0) else if nI i < 0 ∨ 64 ≤ (nI i).toNatClampNeg then none else (if (β.1 68 (nI i).toNatClampNeg) = 0 then some (nI 1) else some (nI 0)))).bind (fun q76 => (if q76 = 0 then fn_X9_fewestNights_L7 (nI k) (nI m) (nI c) n (qen (qfold (qz (qT (qbb m (some c)) (qfv V (pvo V k)) (qw V))) i)) (nI i + nI 1) β else (if (qen (qfold (qz (qT (qbb m (some c)) (qfv V (pvo V k)) (qw V))) i)) < 0 then (fn_X9_bitsOf (nI i)).bind (fun r118 => fn_X9_fewestNights_L7 (nI k) (nI m) (nI c) n r118 (nI i + nI 1) β) else (fn_X9_bitsOf (nI i)).bind (fun r108 => (if (qen (qfold (qz (qT (qbb m (some c)) (qfv V (pvo V k)) (qw V))) i)) ≤ r108 then fn_X9_fewestNights_L7 (nI k) (nI m) (nI c) n (qen (qfold (qz (qT (qbb m (some c)) (qfv V (pvo V k)) (qw V))) i)) (nI i + nI 1) β else (fn_X9_bitsOf (nI i)).bind (fun r118 => fn_X9_fewestNights_L7 (nI k) (nI m) (nI c) n r118 (nI i + nI 1) β)))))) = some (qen (qnf (qT (qbb m (some c)) (qfv V (pvo V k)) (qw V))), τ) ∧ pW W68 σ τ := by
      intro β q19 fr rd old h19
      obtain ⟨τ, g, f⟩ := ih (i + 1) n β (hM.w68 fr) (fun j hj => by
        by_cases z : j = i
        · rw [z, rd]
        · rw [old j (by omega)]; exact hT j (by omega)) (by omega) (by omega)
      refine ⟨τ, ?_, fr.tr f⟩
      rw [qfold] at g
      have q0 : ∀ o, qmin o none = o := fun o => by cases o <;> rfl
      rw [px_gg hi6 (by decide), nI_clamp (by omega), rd, nI_add, (px_cbt hi6).2]
      have hok := hb i hi6
      by_cases c1 : qT (qbb m (some c)) (qfv V (pvo V k)) (qw V) i = some 0
      · have z : qz (qT (qbb m (some c)) (qfv V (pvo V k)) (qw V)) i = some (qbt i) := if_pos c1
        rw [z] at g
        have n19 : ¬ q19 = 0 := fun q => by
          rw [h19 (q.trans nI_0.symm)] at c1; cases c1
        rw [if_neg n19, c1, if_pos (show nI (q9n (some 0)) = 0 from nI_0), Option.bind_some, if_neg (show ¬ nI 1 = 0 by decide), Option.bind_some, Option.bind_some]
        have hb8 := qbt_le i
        cases c4 : qfold (qz (qT (qbb m (some c)) (qfv V (pvo V k)) (qw V))) i with
        | none =>
          rw [c4] at g
          rw [if_pos (show qen none < 0 by decide)]
          exact g
        | some a =>
          have ha := qz_8 c4
          rw [c4, qmin] at g
          rw [show qen (some a) = nI a from rfl, if_neg (nI_pos (by omega))]
          by_cases c5 : a ≤ qbt i
          · rw [if_pos (nI_le c5 (by omega))]
            rw [if_pos c5] at g
            exact g
          · rw [if_neg (nI_ge (by omega) (by omega))]
            rw [if_neg c5] at g
            exact g
      · have z : qz (qT (qbb m (some c)) (qfv V (pvo V k)) (qw V)) i = none := if_neg c1
        rw [z, q0] at g
        have nz : ¬ nI (q9n (qT (qbb m (some c)) (qfv V (pvo V k)) (qw V) i)) = 0 := by
          cases c6 : qT (qbb m (some c)) (qfv V (pvo V k)) (qw V) i with
          | none => decide
          | some x =>
            intro q
            have := hok x c6
            exact c1 (by rw [c6, (px_eq0 (show x < 2 ^ 31 by omega)).mp q])
        rw [if_neg nz, ite_self, Option.bind_some, if_pos nI_0]
        exact g
    unfold fn_X9_fewestNights_L7
    rw [if_neg (nI_ge hi6 (by decide)), and]
    have w1 : ∀ v, pW W68 σ (dc_wI σ 68 i v) := fun v => pW.rf.w rfl
    have o1 : ∀ v, ∀ j, j < i → (dc_wI σ 68 i v).1 68 j = σ.1 68 j := fun v j hj => px_wn (by omega)
    by_cases c1 : i = m
    · have e1 : qT (qbb m (some c)) (qfv V (pvo V k)) (qw V) i = some c := by
        rw [qT_eq hi6]
        unfold qcell
        rw [show qbb m (some c) i = some (some c) from if_pos c1]
      rw [if_pos (show nI (i &&& m) = nI m by rw [c1, Nat.and_self]), Option.bind_some, if_pos (show nI i = nI m by rw [c1]), Option.bind_some, px_gg hi6 (by decide), nI_clamp (by omega)]
      simp only [dc_let]
      rw [if_neg (show ¬ nI 1 = 0 by decide), if_pos (show nI i = nI m by rw [c1]), Option.bind_some]
      obtain ⟨τ, g, f⟩ := fin (dc_wI σ 68 i (nI c)) (nI 1) (w1 _) (by rw [px_ws, e1]; rfl) (o1 _) (fun q => absurd q (by decide))
      rw [nI_clamp (by omega)] at g
      exact ⟨τ, g, f⟩
    · have c1' : ¬ nI i = nI m := fun q => c1 ((nI_eq (by omega) (by omega)).mp q)
      by_cases c2 : i &&& m = m
      · have e1 : qT (qbb m (some c)) (qfv V (pvo V k)) (qw V) i = qfold (qsx (qfv V (pvo V k)) (qw V) (qT (qbb m (some c)) (qfv V (pvo V k)) (qw V)) i) 6 := by
          rw [qT_eq hi6]
          unfold qcell
          rw [show qbb m (some c) i = none from by unfold qbb; rw [if_neg c1, if_pos c2]]
        rw [if_pos (show nI (i &&& m) = nI m by rw [c2]), Option.bind_some, if_neg c1', Option.bind_some, px_gg hi6 (by decide), nI_clamp (by omega)]
        simp only [dc_let]
        have hM1 := hM.w68 (w1 (nI 9990))
        rw [if_neg (show ¬ nI 1 = 0 by decide), if_neg c1', pm_best hM1 ho hk ht hi6 (fun j hj => (o1 _ j hj).trans (hT j hj)) hb, Option.bind_some, px_gi hi6 (by decide), Option.bind_some]
        obtain ⟨τ, g, f⟩ := fin (dc_wI (dc_wI σ 68 i (nI 9990)) 68 i (nI (q9n (qfold (qsx (qfv V (pvo V k)) (qw V) (qT (qbb m (some c)) (qfv V (pvo V k)) (qw V)) i) 6)))) (nI 1) ((w1 _).w rfl) (by rw [px_ws, e1]) (fun j hj => by rw [px_wn (by omega)]; exact o1 _ j hj) (fun q => absurd q (by decide))
        rw [nI_clamp (by omega)] at g
        exact ⟨τ, g, f⟩
      · have e1 : qT (qbb m (some c)) (qfv V (pvo V k)) (qw V) i = none := by
          rw [qT_eq hi6]
          unfold qcell
          rw [show qbb m (some c) i = some none from by unfold qbb; rw [if_neg c1, if_neg c2]]
        rw [if_neg (show ¬ nI (i &&& m) = nI m from fun q => c2 ((nI_eq lt (by omega)).mp q)), Option.bind_some, if_neg c1', Option.bind_some, px_gg hi6 (by decide), nI_clamp (by omega)]
        simp only [dc_let]
        rw [if_pos (show nI 0 = 0 from nI_0), Option.bind_some]
        obtain ⟨τ, g, f⟩ := fin (dc_wI σ 68 i (nI 9990)) (nI 0) (w1 _) (by rw [px_ws, e1]; rfl) (o1 _) (fun _ => e1)
        rw [nI_clamp (by omega)] at g
        exact ⟨τ, g, f⟩
theorem pm_few {σ : dc_HP} {V : pV} (h : pM σ V) (ho : pOk V) {k : Nat} (hk : k < 8) (ht : pth V k = true) {m c : Nat} (hm : m < 64) (hc : c < 2 ^ 31) (hb : ∀ j, j < 64 → qok (qT (qbb m (some c)) (qfv V (pvo V k)) (qw V) j)) : ∃ τ, fn_X9_fewestNights σ (nI k) (nI m) (nI c) = some (qen (qnf (qT (qbb m (some c)) (qfv V (pvo V k)) (qw V))), τ) ∧ pW W68 σ τ := by
  obtain ⟨τ, e, f⟩ := pl_few ho hk ht hm hc hb 64 0 200 σ h (fun j hj => absurd hj (Nat.not_lt_zero _)) rfl (by decide)
  rw [show qfold (qz (qT (qbb m (some c)) (qfv V (pvo V k)) (qw V))) 0 = none from rfl, show qen none = (-6 : Int32) from rfl] at e
  refine ⟨τ, ?_, f⟩
  unfold fn_X9_fewestNights
  rw [e, Option.bind_some]
theorem pl_first {V : pV} (ho : pOk V) {k : Nat} (hk : k < 8) (ht : pth V k = true) {q r : Nat} (hq : q < 6) (hr : r ≤ 8) (hE : qnf (qT1 (qfv V (pvo V k)) (qw V) (pde V k) q) = some r) (hE2 : ∀ j, j < q → qnf (qT1 (qfv V (pvo V k)) (qw V) (pde V k) j) ≠ some r) : ∀ d i n σ, pM σ V → i + d = q → d < n → ∃ τ, fn_X9_firstNight_L2 (nI k) (nI r) n (nI i) σ = some (.inl (nI q, τ)) ∧ pW W68 σ τ := by
  intro d
  induction d with
  | zero =>
    intro i n σ hM hi hn
    obtain ⟨n, rfl⟩ : ∃ m, n = m + 1 := ⟨n - 1, by omega⟩
    obtain rfl : i = q := by omega
    have hd := ho.2.2.1 k hk
    have hw := qw_le ho hq
    obtain ⟨_, _, _, _, _, _, h4, _, h6, h7⟩ := id hM
    have ff : qfv V (pvo V k) i = true := by
      cases c : qfv V (pvo V k) i with
      | true => rfl
      | false =>
        have : qnf (qT1 (qfv V (pvo V k)) (qw V) (pde V k) i) = none := by
          apply qfold_none
          intro S hS
          unfold qz
          rw [qT1_f hq c (S + 1) S (by omega) hS]
          rfl
        rw [this] at hE
        cases hE
    have eT : qaf (qfv V (pvo V k)) (qw V) i (some (pde V k)) = some (qbn (pde V k) (qw V i)) := by rw [qaf, ff, if_pos rfl]
    have hb : ∀ j, j < 64 → qok (qT (qbb (2 ^ i) (some (qbn (pde V k) (qw V i)))) (qfv V (pvo V k)) (qw V) j) := by
      intro j hj
      rw [← eT]
      exact qT1_ok hd hq hj
    have hbn : qbn (pde V k) (qw V i) < 2 ^ 31 := by unfold qbn; omega
    obtain ⟨τ, e, f⟩ := pm_few hM ho hk ht (qbit3 i hq).2.1 hbn hb
    rw [← eT] at e
    have hE' : qnf (qT (qbb (2 ^ i) (qaf (qfv V (pvo V k)) (qw V) i (some (pde V k)))) (qfv V (pvo V k)) (qw V)) = some r := hE
    rw [hE'] at e
    unfold fn_X9_firstNight_L2
    rw [if_neg (nI_ge hq (by decide)), px_gg hk (by decide), px_gg hq (by decide), px_gg hq (by decide), nI_clamp (by omega), nI_clamp (by omega), (h4 k hk ht).2.2.2, h6 i hq, h7 i hq, pk_mul, show pba V i * ppy V i = qw V i from rfl, px_bn (by omega) (by omega), Option.bind_some, pm_for hM ho hk ht hq, ff, Option.bind_some, if_neg (show ¬ nI (if (true : Bool) = true then 1 else 0) = 0 by decide), px_shl1 i (by omega), e, Option.bind_some, if_pos (show (qen (some r), τ).1 = nI r from rfl)]
    exact ⟨τ, rfl, f⟩
  | succ d ih =>
    intro i n σ hM hi hn
    obtain ⟨n, rfl⟩ : ∃ m, n = m + 1 := ⟨n - 1, by omega⟩
    have hiq : i < 6 := by omega
    have hd := ho.2.2.1 k hk
    have hw := qw_le ho hiq
    obtain ⟨_, _, _, _, _, _, h4, _, h6, h7⟩ := id hM
    unfold fn_X9_firstNight_L2
    rw [if_neg (nI_ge hiq (by decide)), px_gg hk (by decide), px_gg hiq (by decide), px_gg hiq (by decide), nI_clamp (by omega), nI_clamp (by omega), (h4 k hk ht).2.2.2, h6 i hiq, h7 i hiq, pk_mul, show pba V i * ppy V i = qw V i from rfl, px_bn (by omega) (by omega), Option.bind_some, pm_for hM ho hk ht hiq, Option.bind_some, nI_add]
    cases ff : qfv V (pvo V k) i with
    | false =>
      rw [if_pos (show nI (if (false : Bool) = true then 1 else 0) = 0 by decide)]
      exact ih (i + 1) n σ hM (by omega) (by omega)
    | true =>
      have eT : qaf (qfv V (pvo V k)) (qw V) i (some (pde V k)) = some (qbn (pde V k) (qw V i)) := by rw [qaf, ff, if_pos rfl]
      have hb : ∀ j, j < 64 → qok (qT (qbb (2 ^ i) (some (qbn (pde V k) (qw V i)))) (qfv V (pvo V k)) (qw V) j) := by
        intro j hj
        rw [← eT]
        exact qT1_ok hd hiq hj
      have hbn : qbn (pde V k) (qw V i) < 2 ^ 31 := by unfold qbn; omega
      obtain ⟨τ, e, f⟩ := pm_few hM ho hk ht (qbit3 i hiq).2.1 hbn hb
      rw [← eT] at e
      have ne := hE2 i (by omega)
      have ne2 : ¬ qen (qnf (qT (qbb (2 ^ i) (qaf (qfv V (pvo V k)) (qw V) i (some (pde V k)))) (qfv V (pvo V k)) (qw V))) = nI r := by
        cases c : qnf (qT (qbb (2 ^ i) (qaf (qfv V (pvo V k)) (qw V) i (some (pde V k)))) (qfv V (pvo V k)) (qw V)) with
        | none => exact fun q => px_m6 (show r < 2 ^ 31 by omega) q.symm
        | some x =>
          have hx : x ≤ 8 := qz_8 c
          intro q
          have : x = r := (nI_eq (by omega) (by omega)).mp q
          exact ne (c.trans (by rw [this]))
      obtain ⟨υ, g, f2⟩ := ih (i + 1) n τ (hM.w68 f) (by omega) (by omega)
      rw [if_neg (show ¬ nI (if (true : Bool) = true then 1 else 0) = 0 by decide), px_shl1 i (by omega), e, Option.bind_some, if_neg ne2]
      exact ⟨υ, g, f.tr f2⟩
