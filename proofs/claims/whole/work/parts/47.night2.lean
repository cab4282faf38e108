/-! nights: the class's search -/
theorem px_ws {σ : dc_HP} {k j : Nat} {v : Int32} : (dc_wI σ k j v).1 k j = v := if_pos ⟨rfl, rfl⟩
theorem px_wn {σ : dc_HP} {k j a b : Nat} {v : Int32} (h : ¬ (a = k ∧ b = j)) : (dc_wI σ k j v).1 a b = σ.1 a b := if_neg h
theorem px_mm1 {a : Nat} (ha : a < 2 ^ 31) : nI a ≠ (-1 : Int32) := by
  intro q
  have := nI_toInt ha
  rw [q] at this
  rw [show ((-1 : Int32)).toInt = -1 by decide] at this
  omega
theorem px_max0 {a b : Nat} (ha : a < 2 ^ 30) (hb : b < 2 ^ 30) : (if nI 0 < nI a - nI b then nI a - nI b else nI 0) = nI (a - b) := by
  by_cases c : b < a
  · rw [pk_sub (by omega), if_pos (nI_lt (by omega) (by omega))]
  · have h := pk_sub_toInt ha hb
    rw [if_neg, show a - b = 0 by omega]
    rw [Int32.lt_iff_toInt_lt, h, nI_toInt (by decide)]
    omega
def q1e : Option Nat → Int32 := fun o => match o with
  | none => (-1 : Int32)
  | some j => nI j
def qok (o : Option Nat) : Prop := ∀ x, o = some x → x ≤ 2000
def qfv (V : pV) (v : Nat) : Nat → Bool := fun p => decide (0 < pnd V p v)
def pPy (σ : dc_HP) (V : pV) (v : Nat) : Prop := ∀ p, p < 6 → σ.1 22 p = if qfv V v p = true then nI (qw V p) else (-1 : Int32)
theorem pPy.other {σ τ : dc_HP} {V : pV} {v : Nat} (h : pPy σ V v) (g : ∀ j, τ.1 22 j = σ.1 22 j) : pPy τ V v := fun p hp => (g p).trans (h p hp)
theorem pc_voice {σ : dc_HP} {b : Nat} {V : pV} (h : pC σ b V) {k : Nat} (hk : k < 8) (ht : pth V k = true) : fn_X0_voiceOf σ b (nI k) = some (nI (pvo V k)) := by
  unfold fn_X0_voiceOf
  rw [pc_has h hk, ht, if_pos rfl, Option.bind_some, if_neg (by decide), px_gg hk (by decide), nI_clamp (by omega), h.2.2.2.2.1 k hk]
theorem pl_npay {V : pV} (ho : pOk V) {v : Nat} (hv : v < 4) : ∀ d i n σ, pC σ 1 V → i + d = 6 → d < n → (∀ p, p < i → σ.1 22 p = if qfv V v p = true then nI (qw V p) else (-1 : Int32)) → ∃ τ, fn_X3_takePays_L2 1 (nI v) n (nI i) σ = some τ ∧ pF 22 22 σ τ ∧ pPy τ V v := by
  intro d
  induction d with
  | zero =>
    intro i n σ hC hi hn h
    obtain ⟨m, rfl⟩ : ∃ m, n = m + 1 := ⟨n - 1, by omega⟩
    obtain rfl : i = 6 := by omega
    unfold fn_X3_takePays_L2
    rw [if_pos (nI_le (Nat.le_refl _) (by decide))]
    exact ⟨σ, rfl, pF.rf, h⟩
  | succ d ih =>
    intro i n σ hC hi hn h
    obtain ⟨m, rfl⟩ : ∃ m, n = m + 1 := ⟨n - 1, by omega⟩
    have hi6 : i < 6 := by omega
    have st : fn_X3_takePays_L2 1 (nI v) (m + 1) (nI i) σ = fn_X3_takePays_L2 1 (nI v) m (nI (i + 1)) (dc_wI σ 22 i (if qfv V v i = true then nI (qw V i) else (-1 : Int32))) := by
      rw [fn_X3_takePays_L2, if_neg (nI_ge hi6 (by decide)), pc_needOf hC hi6 hv, Option.bind_some, nI_add]
      have hn3 := ho.2.2.2.1 i hi6 v hv
      by_cases c : pnd V i v = 0
      · rw [if_pos ((px_le0 (by omega)).mpr c), px_gg hi6 (by decide), nI_clamp (by omega), if_neg (show ¬ qfv V v i = true by unfold qfv; simp [c])]
        rfl
      · rw [if_neg (fun q => c ((px_le0 (by omega)).mp q)), pc_worthOf hC hi6, Option.bind_some, px_gg hi6 (by decide), nI_clamp (by omega), if_pos (show qfv V v i = true by unfold qfv; simp; omega)]
        rfl
    rw [st]
    generalize hα : dc_wI σ 22 i (if qfv V v i = true then nI (qw V i) else (-1 : Int32)) = α
    have fr : pF 22 22 σ α := by rw [← hα]; exact pF.rf.w (Nat.le_refl _) (Nat.le_refl _)
    have hC' : pC α 1 V := hC.other (fun j _ => fr.1 1 j (by omega)) (fun c j _ _ => fr.1 (1 + c) j (by omega))
    obtain ⟨τ, e, f, g⟩ := ih (i + 1) m α hC' (by omega) (by omega) (fun p hp => by
      by_cases z : p = i
      · subst z; rw [← hα, px_ws]
      · rw [← hα, px_wn (by omega)]; exact h p (by omega))
    exact ⟨τ, e, fr.tr f, g⟩
theorem pc_npay {σ : dc_HP} {V : pV} (h : pC σ 1 V) (ho : pOk V) {v : Nat} (hv : v < 4) : ∃ τ, fn_X3_takePays σ 1 (nI v) = some τ ∧ pF 22 22 σ τ ∧ pPy τ V v := by
  obtain ⟨τ, e, f, g⟩ := pl_npay ho hv 6 0 200 σ h rfl (by decide) (fun p hp => absurd hp (Nat.not_lt_zero _))
  refine ⟨τ, ?_, f, g⟩
  unfold fn_X3_takePays
  rw [e, Option.bind_some]
theorem qaf_ok {f : Nat → Bool} {w : Nat → Nat} {p : Nat} {o : Option Nat} (h : qok o) : ∀ x, qaf f w p o = some x → x ≤ 2200 := by
  intro x e
  cases o with
  | none => cases e
  | some y =>
    have := h y rfl
    rw [qaf] at e
    split at e
    · have := Option.some.inj e
      rw [← this]
      unfold qbn
      omega
    · cases e
theorem pc_after {σ : dc_HP} {V : pV} (ho : pOk V) {v : Nat} (h : pPy σ V v) {p : Nat} (hp : p < 6) {o : Option Nat} (hb : qok o) : fn_X3_afterPiece σ (q1e o) (nI p) = some (q1e (qaf (qfv V v) (qw V) p o)) := by
  unfold fn_X3_afterPiece
  cases o with
  | none => rw [show q1e none = (-1 : Int32) from rfl, if_pos rfl]; rfl
  | some x =>
    have hx := hb x rfl
    have hw := qw_le ho hp
    rw [show q1e (some x) = nI x from rfl, if_neg (px_mm1 (by omega)), px_withinN (by omega) (by decide) (by decide), if_pos (show 0 ≤ p ∧ p ≤ 5 by omega), Option.bind_some, if_neg (by decide), px_gg hp (by decide), nI_clamp (by omega), h p hp, qaf]
    cases c : qfv V v p with
    | false =>
      rw [if_neg (show ¬ (false : Bool) = true by decide), if_pos rfl, if_neg (show ¬ (false : Bool) = true by decide)]
      rfl
    | true =>
      rw [if_pos rfl, if_neg (px_mm1 (by omega)), px_gi hp (by decide), px_max0 (by omega) (by omega), px_div10 (by omega), nI_add, if_pos rfl]
      rfl
/-! a set without a piece -/
theorem px_mn (S k : Nat) (hS : S < 64) (hk : k < 6) : nI S &&& ((nI 1 <<< (nI k &&& 31)) ^^^ (-1 : Int32)) = nI (if S.testBit k = true then S - 2 ^ k else S) := by
  have : ∀ S, S < 64 → ∀ k, k < 6 → nI S &&& ((nI 1 <<< (nI k &&& 31)) ^^^ (-1 : Int32)) = nI (if S.testBit k = true then S - 2 ^ k else S) := by decide +kernel
  exact this S hS k hk
theorem pl_left {σ : dc_HP} {V : pV} (ho : pOk V) {v : Nat} (h : pPy σ V v) {S p : Nat} (hS : S < 64) (hp : p < 6) {T : Nat → Option Nat} (hT : ∀ j, j < S → σ.1 23 j = q1e (T j)) (hb : ∀ j, j < 64 → qok (T j)) : ∀ d i n, i + d = 6 → d < n → fn_X3_leastLeft_L5 σ (nI S) (nI p) n (q1e (qfold (fun k => if k = p then none else qsx (qfv V v) (qw V) T S k) i)) (nI i) = some (q1e (qfold (fun k => if k = p then none else qsx (qfv V v) (qw V) T S k) 6)) := by
  intro d
  induction d with
  | zero =>
    intro i n hi hn
    obtain ⟨m, rfl⟩ : ∃ m, n = m + 1 := ⟨n - 1, by omega⟩
    obtain rfl : i = 6 := by omega
    unfold fn_X3_leastLeft_L5
    rw [if_pos (nI_le (Nat.le_refl _) (by decide))]
  | succ d ih =>
    intro i n hi hn
    obtain ⟨m, rfl⟩ : ∃ m, n = m + 1 := ⟨n - 1, by omega⟩
    have hi6 : i < 6 := by omega
    have g := ih (i + 1) m (by omega) (by omega)
    rw [qfold] at g
    unfold fn_X3_leastLeft_L5
    rw [if_neg (nI_ge hi6 (by decide)), nI_add]
    have q0 : ∀ o, qmin o none = o := fun o => by cases o <;> rfl
    by_cases c : i = p
    · rw [if_pos (by rw [c])]
      rw [if_pos c, q0] at g
      exact g
    · rw [if_neg (fun q => c ((nI_eq (by omega) (by omega)).mp q)), fn_X8_bit, px_bit (by omega) (by omega), Option.bind_some]
      rw [if_neg c, qsx] at g
      cases c2 : S.testBit i with
      | false =>
        rw [c2, if_neg (by decide), q0] at g
        rw [if_neg (by decide)]
        exact g
      | true =>
        obtain ⟨b1, b2, b3, b4⟩ := qbit S hS i hi6 c2
        rw [c2, if_pos rfl] at g
        rw [if_pos rfl, if_pos rfl, px_mn S i hS hi6, c2, if_pos rfl, show nI 64 - nI 1 = nI 63 by decide, px_withinN (by omega) (by decide) (by decide), if_pos (show 0 ≤ S - 2 ^ i ∧ S - 2 ^ i ≤ 63 by omega), Option.bind_some, if_neg (by decide), px_gg (by omega) (by decide), nI_clamp (by omega), hT _ b2, pc_after ho h hi6 (hb _ (by omega)), Option.bind_some]
        cases c3 : qaf (qfv V v) (qw V) i (T (S - 2 ^ i)) with
        | none =>
          rw [c3, q0] at g
          rw [if_pos (show q1e none = (-1 : Int32) from rfl)]
          exact g
        | some r =>
          have hr : r ≤ 2200 := qaf_ok (hb _ (by omega)) r c3
          rw [c3] at g
          rw [show q1e (some r) = nI r from rfl, if_neg (px_mm1 (by omega))]
          cases c4 : qfold (fun k => if k = p then none else qsx (qfv V v) (qw V) T S k) i with
          | none =>
            rw [c4] at g
            rw [if_pos (show q1e none = (-1 : Int32) from rfl)]
            exact g
          | some a =>
            have ha : a ≤ 2200 := by
              obtain ⟨k, hk, e⟩ := qfold_of c4
              split at e
              · cases e
              · unfold qsx at e
                split at e
                · exact qaf_ok (hb _ (Nat.lt_of_le_of_lt (Nat.sub_le _ _) hS)) a e
                · cases e
            rw [c4, qmin] at g
            rw [show q1e (some a) = nI a from rfl, if_neg (px_mm1 (by omega))]
            by_cases c5 : a ≤ r
            · rw [if_pos (nI_le c5 (by omega))]
              rw [if_pos c5] at g
              exact g
            · rw [if_neg (nI_ge (by omega) (by omega))]
              rw [if_neg c5] at g
              exact g
theorem qT1_ok {f : Nat → Bool} {w : Nat → Nat} {d p : Nat} (hd : d ≤ 999) (hp : p < 6) {S : Nat} (hS : S < 64) : qok (qT1 f w d p S) := fun x h => Nat.le_trans (qT_le (qbb_gr1 hd hp) hS h) (by decide)
theorem pc_left {σ : dc_HP} {V : pV} (ho : pOk V) {v : Nat} (h : pPy σ V v) {S p d : Nat} (hS : S < 64) (hp : p < 6) (hd : d ≤ 999) (hn : S ≠ 2 ^ p) (hT : ∀ j, j < S → σ.1 23 j = q1e (qT1 (qfv V v) (qw V) d p j)) : fn_X3_leastLeft σ (nI S) (nI p) = some (q1e (qT1 (qfv V v) (qw V) d p S)) := by
  have e := pl_left ho h hS hp hT (fun j hj => qT1_ok hd hp hj) 6 0 200 rfl (by decide)
  rw [show q1e (qfold (fun k => if k = p then none else qsx (qfv V v) (qw V) (qT1 (qfv V v) (qw V) d p) S k) 0) = (-1 : Int32) from rfl] at e
  unfold fn_X3_leastLeft
  rw [e, Option.bind_some]
  by_cases m : S &&& 2 ^ p = 2 ^ p
  · rw [qT1_s hS m hn]
    congr 2
    apply qfold_congr
    intro k hk
    by_cases c : k = p
    · rw [if_pos c]
      unfold qsx
      cases c2 : S.testBit k with
      | false => rfl
      | true =>
        have := (qbit S hS k hk c2).2.1
        rw [if_pos rfl, qT1_n (by omega) (fun q => (qbit2 S hS k hk c2 p hp q).2.2 c)]
        rfl
    · rw [if_neg c]
  · rw [qT1_n hS m]
    congr 2
    apply qfold_none
    intro k hk
    split
    · rfl
    · unfold qsx
      cases c2 : S.testBit k with
      | false => rfl
      | true =>
        have := (qbit S hS k hk c2).2.1
        rw [if_pos rfl, qT1_n (by omega) (fun q => m (qbit2 S hS k hk c2 p hp q).1)]
        rfl
theorem px_cbt {S : Nat} (hS : S < 64) : fn_J6_bitCount_0f7a4 (nI S) = some (nI (qbt S)) ∧ fn_X9_bitsOf (nI S) = some (nI (qbt S)) := by
  have e : S = pm (fun k => S.testBit k) 8 := pm_ext (by omega) (fun k _ => rfl)
  have := px_cnt (fun k => S.testBit k)
  rw [← e] at this
  exact this
theorem qz_8 {T : Nat → Option Nat} {n x : Nat} (h : qfold (qz T) n = some x) : x ≤ 8 := by
  obtain ⟨k, hk, e⟩ := qfold_of h
  unfold qz at e
  split at e
  · rw [← Option.some.inj e]; exact qbt_le k
  · cases e
theorem pl_from {V : pV} (ho : pOk V) {v : Nat} {p d : Nat} (hp : p < 6) (hd : d ≤ 999) : ∀ e i n σ, pPy σ V v → (∀ j, j < i → σ.1 23 j = q1e (qT1 (qfv V v) (qw V) d p j)) → i + e = 64 → e < n → ∃ τ, fn_X3_fewestFrom_L6 (nI p) (nI d) n (qen (qfold (qz (qT1 (qfv V v) (qw V) d p)) i)) (nI i) σ = some (qen (qnf (qT1 (qfv V v) (qw V) d p)), τ) ∧ pF 23 23 σ τ := by
  intro e
  induction e with
  | zero =>
    intro i n σ hP hT hi hn
    obtain ⟨m, rfl⟩ : ∃ m, n = m + 1 := ⟨n - 1, by omega⟩
    obtain rfl : i = 64 := by omega
    unfold fn_X3_fewestFrom_L6
    rw [if_pos (nI_le (Nat.le_refl _) (by decide))]
    exact ⟨σ, rfl, pF.rf⟩
  | succ e ih =>
    intro i n σ hP hT hi hn
    obtain ⟨m, rfl⟩ : ∃ m, n = m + 1 := ⟨n - 1, by omega⟩
    have hi6 : i < 64 := by omega
    have hv : (if nI i = (nI 1 <<< (nI p &&& 31)) then (fn_X3_afterPiece σ (nI d) (nI p)).bind (fun r33 => some r33) else (fn_X3_leastLeft σ (nI i) (nI p)).bind (fun r43 => some r43)) = some (q1e (qT1 (qfv V v) (qw V) d p i)) := by
      rw [px_shl1 p (by omega)]
      have hp2 := (qbit3 p hp).2.1
      by_cases c : i = 2 ^ p
      · rw [if_pos (by rw [c]), c, qT1_b hp]
        have := pc_after ho hP hp (o := some d) (fun x hx => by cases hx; omega)
        rw [show q1e (some d) = nI d from rfl] at this
        rw [this]
        rfl
      · rw [if_neg (fun q => c ((nI_eq (by omega) (by omega)).mp q)), pc_left ho hP hi6 hp hd c hT]
        rfl
    generalize hα : dc_wI σ 23 i (q1e (qT1 (qfv V v) (qw V) d p i)) = α
    have fr : pF 23 23 σ α := by rw [← hα]; exact pF.rf.w (Nat.le_refl _) (Nat.le_refl _)
    have rd : α.1 23 i = q1e (qT1 (qfv V v) (qw V) d p i) := by rw [← hα, px_ws]
    obtain ⟨τ, g, f⟩ := ih (i + 1) m α (hP.other (fun j => fr.1 22 j (by omega))) (fun j hj => by
      by_cases z : j = i
      · rw [z, rd]
      · rw [← hα, px_wn (by omega)]; exact hT j (by omega)) (by omega) (by omega)
    refine ⟨τ, ?_, fr.tr f⟩
    unfold fn_X3_fewestFrom_L6
    rw [if_neg (nI_ge hi6 (by decide)), hv, Option.bind_some, px_gg hi6 (by decide), nI_clamp (by omega), hα]
    simp only [dc_let]
    rw [(px_cbt hi6).1, Option.bind_some, px_gi hi6 (by decide), rd, nI_add]
    rw [qfold] at g
    have hok := qT1_ok (f := qfv V v) (w := qw V) hd hp hi6
    have q0 : ∀ o, qmin o none = o := fun o => by cases o <;> rfl
    have hb8 := qbt_le i
    by_cases c : qT1 (qfv V v) (qw V) d p i = some 0
    · have z : qz (qT1 (qfv V v) (qw V) d p) i = some (qbt i) := if_pos c
      rw [z] at g
      rw [c, if_pos (show q1e (some 0) = 0 from nI_0)]
      cases c4 : qfold (qz (qT1 (qfv V v) (qw V) d p)) i with
      | none =>
        rw [c4] at g
        rw [if_pos (show qen none = (-6 : Int32) from rfl)]
        exact g
      | some a =>
        have ha := qz_8 c4
        rw [c4, qmin] at g
        rw [show qen (some a) = nI a from rfl, if_neg (px_m6 (by omega))]
        by_cases c5 : a ≤ qbt i
        · rw [if_pos (nI_le c5 (by omega))]
          rw [if_pos c5] at g
          exact g
        · rw [if_neg (nI_ge (by omega) (by omega))]
          rw [if_neg c5] at g
          exact g
    · have z : qz (qT1 (qfv V v) (qw V) d p) i = none := if_neg c
      rw [z, q0] at g
      rw [if_neg (show ¬ q1e (qT1 (qfv V v) (qw V) d p i) = 0 from by
        cases c6 : qT1 (qfv V v) (qw V) d p i with
        | none => decide
        | some x =>
          intro q
          have := hok x c6
          exact c (by rw [c6, (px_eq0 (show x < 2 ^ 31 by omega)).mp q]))]
      exact g
theorem pc_from {σ : dc_HP} {V : pV} (ho : pOk V) {v : Nat} (h : pPy σ V v) {p d : Nat} (hp : p < 6) (hd : d ≤ 999) : ∃ τ, fn_X3_fewestFrom σ (nI p) (nI d) = some (qen (qnf (qT1 (qfv V v) (qw V) d p)), τ) ∧ pF 23 23 σ τ := by
  obtain ⟨τ, e, f⟩ := pl_from ho hp hd 64 0 200 σ h (fun j hj => absurd hj (Nat.not_lt_zero _)) rfl (by decide)
  rw [show qfold (qz (qT1 (qfv V v) (qw V) d p)) 0 = none from rfl, show qen none = (-6 : Int32) from rfl] at e
  refine ⟨τ, ?_, f⟩
  unfold fn_X3_fewestFrom
  rw [e, Option.bind_some]
def pFd (σ : dc_HP) (o : Option (Nat × Nat)) : Prop := σ.1 21 0 = qen (o.map (·.1)) ∧ σ.1 21 1 = qen (o.map (·.2))
theorem pl_nfind {V : pV} (ho : pOk V) {v : Nat} {d : Nat} (hd : d ≤ 999) : ∀ e i n σ, pPy σ V v → pFd σ (qfd (fun p => qnf (qT1 (qfv V v) (qw V) d p)) i) → i + e = 6 → e < n → ∃ τ, fn_X3_find_L44 1 (nI d) n (nI i) σ = some τ ∧ pF 21 23 σ τ ∧ pFd τ (qfd (fun p => qnf (qT1 (qfv V v) (qw V) d p)) 6) := by
  intro e
  induction e with
  | zero =>
    intro i n σ hP hF hi hn
    obtain ⟨m, rfl⟩ : ∃ m, n = m + 1 := ⟨n - 1, by omega⟩
    obtain rfl : i = 6 := by omega
    unfold fn_X3_find_L44
    rw [if_pos (nI_le (Nat.le_refl _) (by decide))]
    exact ⟨σ, rfl, pF.rf, hF⟩
  | succ e ih =>
    intro i n σ hP hF hi hn
    obtain ⟨m, rfl⟩ : ∃ m, n = m + 1 := ⟨n - 1, by omega⟩
    have hi6 : i < 6 := by omega
    obtain ⟨α, e1, f1⟩ := pc_from ho hP hi6 hd
    have F0 : α.1 21 0 = σ.1 21 0 := f1.1 21 0 (by omega)
    have F1 : α.1 21 1 = σ.1 21 1 := f1.1 21 1 (by omega)
    have P1 : pPy α V v := hP.other (fun j => f1.1 22 j (by omega))
    have nx : ∀ β, pF 21 23 σ β → pPy β V v → pFd β (qfd (fun p => qnf (qT1 (qfv V v) (qw V) d p)) (i + 1)) → ∃ τ, fn_X3_find_L44 1 (nI d) m (nI (i + 1)) β = some τ ∧ pF 21 23 σ τ ∧ pFd τ (qfd (fun p => qnf (qT1 (qfv V v) (qw V) d p)) 6) := by
      intro β b1 b2 b3
      obtain ⟨τ, t1, t2, t3⟩ := ih (i + 1) m β b2 b3 (by omega) (by omega)
      exact ⟨τ, t1, b1.tr t2, t3⟩
    have fα : pF 21 23 σ α := f1.mono (by decide) (by decide)
    have up : ∀ a, pPy (dc_wI (dc_wI α 21 0 a) 21 1 (nI i)) V v ∧ pF 21 23 σ (dc_wI (dc_wI α 21 0 a) 21 1 (nI i)) := fun a => ⟨P1.other (fun j => by rw [px_wn (by omega), px_wn (by omega)]), (fα.w (by decide) (by decide)).w (by decide) (by decide)⟩
    unfold fn_X3_find_L44
    rw [if_neg (nI_ge hi6 (by decide)), e1, Option.bind_some, nI_add]
    dsimp only
    rw [F0, hF.1]
    rw [qfd] at nx
    cases c : qnf (qT1 (qfv V v) (qw V) d i) with
    | none =>
      rw [c] at nx
      rw [if_pos (show qen none = (-6 : Int32) from rfl)]
      exact nx α fα P1 ⟨F0.trans hF.1, F1.trans hF.2⟩
    | some x =>
      have hx : x ≤ 8 := qz_8 c
      rw [c] at nx
      rw [show qen (some x) = nI x from rfl, if_neg (px_m6 (by omega))]
      cases c2 : qfd (fun p => qnf (qT1 (qfv V v) (qw V) d p)) i with
      | none =>
        rw [c2] at nx
        rw [if_pos (show qen (Option.map (fun a : Nat × Nat => a.1) none) = (-6 : Int32) from rfl)]
        simp only [dc_let]
        exact nx _ (up _).2 (up _).1 ⟨by rw [px_wn (by decide), px_ws]; rfl, by rw [px_ws]; rfl⟩
      | some a =>
        obtain ⟨a1, a2⟩ := a
        rw [c2] at nx
        dsimp only at nx
        have ha := (qfd_s c2).2.1
        have ha8 : a1 ≤ 8 := qz_8 ha
        rw [show qen (Option.map (fun a : Nat × Nat => a.1) (some (a1, a2))) = nI a1 from rfl, if_neg (px_m6 (by omega))]
        by_cases c5 : a1 ≤ x
        · rw [if_pos c5] at nx
          rw [if_pos (nI_le c5 (by omega))]
          exact nx α fα P1 ⟨F0.trans (hF.1.trans (by rw [c2])), F1.trans (hF.2.trans (by rw [c2]))⟩
        · rw [if_neg c5] at nx
          rw [if_neg (nI_ge (by omega) (by omega))]
          simp only [dc_let]
          exact nx _ (up _).2 (up _).1 ⟨by rw [px_wn (by decide), px_ws]; rfl, by rw [px_ws]; rfl⟩
theorem pc_find0 {σ : dc_HP} {V : pV} (h : pC σ 1 V) (ho : pOk V) {k : Nat} (hk : k < 8) (ht : pth V k = true) : ∃ τ, fn_X3_find σ 1 (nI k) = some τ ∧ pF 21 23 σ τ ∧ (pde V k = 0 → τ.1 21 0 = nI 0 ∧ τ.1 21 1 = (-6 : Int32)) ∧ (0 < pde V k → pFd τ (qfd (fun p => qnf (qT1 (qfv V (pvo V k)) (qw V) (pde V k) p)) 6)) := by
  have hd := ho.2.2.1 k hk
  have hv := ho.2.1 k hk
  unfold fn_X3_find
  rw [pc_debtOf h ho hk, Option.bind_some]
  by_cases c : pde V k = 0
  · rw [if_pos ((px_eq0 (by omega)).mpr c), Option.bind_some]
    simp only [dc_let]
    rw [if_pos ((px_eq0 (by omega)).mpr c)]
    refine ⟨_, rfl, (pF.rf.w (by decide) (by decide)).w (by decide) (by decide), fun _ => ⟨?_, ?_⟩, fun q => absurd c (by omega)⟩
    · rw [px_wn (by decide), px_ws]
    · rw [px_ws]
  · rw [if_neg (fun q => c ((px_eq0 (by omega)).mp q)), Option.bind_some]
    simp only [dc_let]
    rw [if_neg (fun q => c ((px_eq0 (by omega)).mp q))]
    generalize hα : dc_wI (dc_wI σ 21 0 (-6 : Int32)) 21 1 (-6 : Int32) = α
    have fr : pF 21 23 σ α := by rw [← hα]; exact (pF.rf.w (by decide) (by decide)).w (by decide) (by decide)
    have hC : pC α 1 V := h.other (fun j _ => fr.1 1 j (by omega)) (fun c j _ _ => fr.1 (1 + c) j (by omega))
    obtain ⟨β, e1, f1, g1⟩ := pc_npay hC ho hv
    have F : pFd β (qfd (fun p => qnf (qT1 (qfv V (pvo V k)) (qw V) (pde V k) p)) 0) := by
      refine ⟨?_, ?_⟩
      · rw [f1.1 21 0 (by omega), ← hα, px_wn (by decide), px_ws]; rfl
      · rw [f1.1 21 1 (by omega), ← hα, px_ws]; rfl
    obtain ⟨τ, e2, f2, g2⟩ := pl_nfind ho hd 6 0 200 β g1 F rfl (by decide)
    rw [pc_voice hC hk ht, Option.bind_some, e1, Option.bind_some, e2, Option.bind_some]
    exact ⟨τ, rfl, (fr.tr (f1.mono (by decide) (by decide))).tr f2, fun q => absurd q c, fun _ => g2⟩
