/-! rings: the rounds, and the class -/
def qbl (L : Nat → Bool) (n : Nat) : Nat → Option Nat
  | 0 => none
  | i + 1 => if L (qdg n i) = true then some (qdg n i) else qbl L n i
theorem qbl_in {L : Nat → Bool} {n p : Nat} : ∀ {i : Nat}, qbl L n i = some p → L p = true ∧ ∃ j, j < i ∧ qdg n j = p := by
  intro i
  induction i with
  | zero => intro h; cases h
  | succ i ih =>
    intro h
    rw [qbl] at h
    split at h
    · rename_i c
      have := Option.some.inj h
      rw [← this]
      exact ⟨c, i, by omega, rfl⟩
    · obtain ⟨a, j, b, c⟩ := ih h
      exact ⟨a, j, by omega, c⟩
theorem qbl_ex {L : Nat → Bool} {n : Nat} : ∀ {i : Nat}, (∃ j, j < i ∧ L (qdg n j) = true) → ∃ p, qbl L n i = some p := by
  intro i
  induction i with
  | zero => rintro ⟨j, h, _⟩; omega
  | succ i ih =>
    rintro ⟨j, h, g⟩
    rw [qbl]
    by_cases c : L (qdg n i) = true
    · exact ⟨_, if_pos c⟩
    · rw [if_neg c]
      refine ih ⟨j, ?_, g⟩
      by_cases e : j = i
      · rw [e] at g; exact absurd g c
      · omega
/-- four digits, a ranking -/
def qrk (n : Nat) : Prop := n ≤ 9999 ∧ (∀ i, i < 4 → qdg n i < 4) ∧ ∀ p, p < 4 → ∃ i, i < 4 ∧ qdg n i = p
def qpts (L : Nat → Bool) (N : Nat → Nat) : Nat → Nat := fun k => (qbl L (N k) 4).getD 0
theorem qpts_in {L : Nat → Bool} {N : Nat → Nat} (hN : ∀ k, k < 4 → qrk (N k)) {p : Nat} (hp : p < 4) (hL : L p = true) {k : Nat} (hk : k < 4) : qbl L (N k) 4 = some (qpts L N k) ∧ L (qpts L N k) = true ∧ qpts L N k < 4 := by
  obtain ⟨h0, h1, h2⟩ := hN k hk
  obtain ⟨i, hi, e⟩ := h2 p hp
  obtain ⟨q, g⟩ := qbl_ex (L := L) (n := N k) (i := 4) ⟨i, hi, by rw [e]; exact hL⟩
  have z : qpts L N k = q := by unfold qpts; rw [g]; rfl
  obtain ⟨a, j, hj, b⟩ := qbl_in g
  rw [z]
  exact ⟨g, a, by rw [← b]; exact h1 j hj⟩
def qwk (pt : Nat → Nat) (k : Nat) : Nat → Nat → Bool
  | 0, _ => false
  | d + 1, a => if pt a = k then true else qwk pt k d (pt a)
def qrg (L : Nat → Bool) (pt : Nat → Nat) : Nat → Bool := fun k => L k && qwk pt k 4 k
abbrev qLP : Type := (Nat → Bool) × (Nat → Nat)
def qrs (N : Nat → Nat) (x : qLP) : qLP := (fun j => x.1 j && !qrg x.1 (qpts x.1 N) j, fun j => if qrg x.1 (qpts x.1 N) j = true then qpts x.1 N j else x.2 j)
def qri (N : Nat → Nat) : Nat → qLP → qLP
  | 0, x => x
  | d + 1, x => qri N d (qrs N x)
def qp4 (p0 p1 p2 p3 : Nat) : Nat → Nat := fun k => if k = 0 then p0 else if k = 1 then p1 else if k = 2 then p2 else p3
set_option maxRecDepth 100000 in
theorem qring4 : ∀ b0 b1 b2 b3 : Bool, (b0 || b1 || b2 || b3) = true → ∀ p0, p0 < 4 → ∀ p1, p1 < 4 → ∀ p2, p2 < 4 → ∀ p3, p3 < 4 → (po b0 b1 b2 b3 false false false false p0 && po b0 b1 b2 b3 false false false false p1 && po b0 b1 b2 b3 false false false false p2 && po b0 b1 b2 b3 false false false false p3) = true → (qrg (po b0 b1 b2 b3 false false false false) (qp4 p0 p1 p2 p3) 0 || qrg (po b0 b1 b2 b3 false false false false) (qp4 p0 p1 p2 p3) 1 || qrg (po b0 b1 b2 b3 false false false false) (qp4 p0 p1 p2 p3) 2 || qrg (po b0 b1 b2 b3 false false false false) (qp4 p0 p1 p2 p3) 3) = true := by decide +kernel
theorem qwk_congr {f g : Nat → Nat} (h : ∀ k, k < 4 → f k = g k) (hg : ∀ k, k < 4 → f k < 4) {k : Nat} : ∀ d a, a < 4 → qwk f k d a = qwk g k d a := by
  intro d
  induction d with
  | zero => intro a _; rfl
  | succ d ih =>
    intro a ha
    rw [qwk, qwk, ← h a ha, ih _ (hg a ha)]
theorem qring {L : Nat → Bool} {pt : Nat → Nat} {p : Nat} (hp : p < 4) (hL : L p = true) (h : ∀ k, k < 4 → L (pt k) = true ∧ pt k < 4) : ∃ k, k < 4 ∧ qrg L pt k = true := by
  have eL : ∀ k, k < 4 → po (L 0) (L 1) (L 2) (L 3) false false false false k = L k := by
    intro k hk
    rcases (show k = 0 ∨ k = 1 ∨ k = 2 ∨ k = 3 by omega) with rfl | rfl | rfl | rfl <;> rfl
  have eP : ∀ k, k < 4 → qp4 (pt 0) (pt 1) (pt 2) (pt 3) k = pt k := by
    intro k hk
    rcases (show k = 0 ∨ k = 1 ∨ k = 2 ∨ k = 3 by omega) with rfl | rfl | rfl | rfl <;> rfl
  have eR : ∀ k, k < 4 → qrg (po (L 0) (L 1) (L 2) (L 3) false false false false) (qp4 (pt 0) (pt 1) (pt 2) (pt 3)) k = qrg L pt k := by
    intro k hk
    unfold qrg
    rw [eL k hk, qwk_congr eP (fun j hj => by rw [eP j hj]; exact (h j hj).2) 4 k hk]
  have h0 := h 0 (by decide)
  have h1 := h 1 (by decide)
  have h2 := h 2 (by decide)
  have h3 := h 3 (by decide)
  have a : (L 0 || L 1 || L 2 || L 3) = true := by
    rcases (show p = 0 ∨ p = 1 ∨ p = 2 ∨ p = 3 by omega) with rfl | rfl | rfl | rfl <;> simp [hL]
  have e := qring4 (L 0) (L 1) (L 2) (L 3) a (pt 0) h0.2 (pt 1) h1.2 (pt 2) h2.2 (pt 3) h3.2 (by rw [eL _ h0.2, eL _ h1.2, eL _ h2.2, eL _ h3.2, h0.1, h1.1, h2.1, h3.1]; rfl)
  rw [eR 0 (by decide), eR 1 (by decide), eR 2 (by decide), eR 3 (by decide)] at e
  simp only [Bool.or_eq_true] at e
  rcases e with ((e | e) | e) | e
  · exact ⟨0, by decide, e⟩
  · exact ⟨1, by decide, e⟩
  · exact ⟨2, by decide, e⟩
  · exact ⟨3, by decide, e⟩
theorem pc_mono {f g : Nat → Bool} (h : ∀ j, f j = true → g j = true) : ∀ n, pc f n ≤ pc g n := by
  intro n
  induction n with
  | zero => exact Nat.le_refl _
  | succ n ih =>
    cases c : f n with
    | false =>
      rw [pc_s0 c]
      cases d : g n with
      | false => rw [pc_s0 d]; exact ih
      | true => rw [pc_s1 d]; omega
    | true => rw [pc_s1 c, pc_s1 (h n c)]; omega
theorem pc_less {f g : Nat → Bool} (h : ∀ j, f j = true → g j = true) {k : Nat} (hf : f k = false) (hg : g k = true) : ∀ n, k < n → pc f n < pc g n := by
  intro n
  induction n with
  | zero => intro q; omega
  | succ n ih =>
    intro q
    by_cases e : k = n
    · subst e
      rw [pc_s0 hf, pc_s1 hg]
      have := pc_mono h k
      omega
    · have := ih (by omega)
      cases c : f n with
      | false =>
        rw [pc_s0 c]
        cases d : g n with
        | false => rw [pc_s0 d]; exact this
        | true => rw [pc_s1 d]; omega
      | true => rw [pc_s1 c, pc_s1 (h n c)]; omega
theorem pc_no {f : Nat → Bool} : ∀ {n : Nat}, pc f n = 0 → ∀ k, k < n → f k = false := by
  intro n
  induction n with
  | zero => intro _ k h; omega
  | succ n ih =>
    intro h k hk
    cases c : f n with
    | true => rw [pc_s1 c] at h; omega
    | false =>
      rw [pc_s0 c] at h
      by_cases e : k = n
      · rw [e, c]
      · exact ih h k (by omega)
theorem qrs_less {N : Nat → Nat} (hN : ∀ k, k < 4 → qrk (N k)) {x : qLP} {p : Nat} (hp : p < 4) (hL : x.1 p = true) : pc (qrs N x).1 4 < pc x.1 4 := by
  obtain ⟨k, hk, h⟩ := qring (pt := qpts x.1 N) hp hL (fun k hk => (qpts_in hN hp hL hk).2)
  refine pc_less (fun j hj => ?_) ?_ ?_ 4 hk
  · unfold qrs at hj; simp at hj; exact hj.1
  · unfold qrs; simp [h]
  · unfold qrg at h; simp at h; exact h.1
theorem qrs_no {N : Nat → Nat} {x : qLP} {k : Nat} (h : x.1 k = false) : (qrs N x).1 k = false ∧ (qrs N x).2 k = x.2 k := by
  unfold qrs qrg
  simp [h]
theorem qri_no {N : Nat → Nat} {k : Nat} : ∀ d x, x.1 k = false → (qri N d x).1 k = false ∧ (qri N d x).2 k = x.2 k := by
  intro d
  induction d with
  | zero => intro x h; exact ⟨h, rfl⟩
  | succ d ih =>
    intro x h
    have g := qrs_no (N := N) h
    have := ih (qrs N x) g.1
    exact ⟨this.1, this.2.trans g.2⟩
theorem qri_end {N : Nat → Nat} (hN : ∀ k, k < 4 → qrk (N k)) : ∀ d x, pc x.1 4 ≤ d → ∀ k, k < 4 → (qri N d x).1 k = false := by
  intro d
  induction d with
  | zero => intro x h k hk; exact pc_no (Nat.le_zero.mp h) k hk
  | succ d ih =>
    intro x h k hk
    by_cases c : ∃ p, p < 4 ∧ x.1 p = true
    · obtain ⟨p, hp, hL⟩ := c
      have := qrs_less hN hp hL
      exact ih (qrs N x) (by omega) k hk
    · have hk0 : x.1 k = false := by
        cases e : x.1 k with
        | false => rfl
        | true => exact absurd ⟨k, hk, e⟩ c
      exact (qri_no (d + 1) x hk0).1
theorem pl_bl {σ : dc_HP} {L : Nat → Bool} (h : σ.1 24 3 = nI (pm L 4)) {n : Nat} (hn : qrk n) : ∀ i m, i < 4 → i + 1 < m → fn_X5_bestLeft_L2 σ (nI n) m (nI i) = some (match qbl L n (i + 1) with
    | some p => .inl (nI p)
    | none => .inr ()) := by
  intro i
  induction i with
  | zero =>
    intro m hi hm
    obtain ⟨m, rfl⟩ : ∃ q, m = q + 1 + 1 := ⟨m - 2, by omega⟩
    have hd := hn.2.1 0 hi
    have := hn.1
    rw [fn_X5_bestLeft_L2, if_neg (nI_pos (by decide)), px_digit (by omega) (by decide), Option.bind_some, h, fn_X8_bit, px_pmbit _ (by decide) hd, Option.bind_some, qbl, qbl]
    cases c : L (qdg n 0) with
    | true => rw [if_pos (by decide), if_pos rfl]
    | false =>
      rw [if_neg (by decide), if_neg (by decide), fn_X5_bestLeft_L2, if_pos (show nI 0 + (-1 : Int32) < 0 by decide)]
  | succ i ih =>
    intro m hi hm
    obtain ⟨m, rfl⟩ : ∃ q, m = q + 1 := ⟨m - 1, by omega⟩
    have hd := hn.2.1 (i + 1) hi
    have := hn.1
    rw [fn_X5_bestLeft_L2, if_neg (nI_pos (by omega)), px_digit (by omega) (by omega), Option.bind_some, h, fn_X8_bit, px_pmbit _ (by decide) hd, Option.bind_some, qbl]
    cases c : L (qdg n (i + 1)) with
    | true => rw [if_pos (by decide), if_pos rfl]
    | false =>
      rw [if_neg (by decide), if_neg (by decide), px_dec (by omega)]
      exact ih m (by omega) (by omega)
theorem pc_bl {σ : dc_HP} {L : Nat → Bool} (h : σ.1 24 3 = nI (pm L 4)) {n : Nat} (hn : qrk n) : fn_X5_bestLeft σ (nI n) = some (qen (qbl L n 4)) := by
  unfold fn_X5_bestLeft
  rw [pl_bl h hn 3 200 (by decide) (by decide), Option.bind_some]
  cases qbl L n 4 <;> rfl
def pRg (σ : dc_HP) (L : Nat → Bool) (N : Nat → Nat) : Prop := σ.1 24 3 = nI (pm L 4) ∧ ∀ k, k < 4 → σ.1 25 k = nI (N k)
theorem pRg.other {σ τ : dc_HP} {L : Nat → Bool} {N : Nat → Nat} (h : pRg σ L N) (g : pF 26 27 σ τ) : pRg τ L N := ⟨(g.1 24 3 (by omega)).trans h.1, fun k hk => (g.1 25 k (by omega)).trans (h.2 k hk)⟩
theorem pl_sw9 {L : Nat → Bool} {N : Nat → Nat} (hN : ∀ k, k < 4 → qrk (N k)) (x : Int32) : ∀ d i m σ, pRg σ L N → (∀ k, k < i → σ.1 27 k = qen (qbl L (N k) 4)) → i + d = 4 → d < m → ∃ τ, fn_X5_swap_L9 x m (nI i) σ = some τ ∧ pF 27 27 σ τ ∧ ∀ k, k < 4 → τ.1 27 k = qen (qbl L (N k) 4) := by
  intro d
  induction d with
  | zero =>
    intro i m σ h hp hi hm
    obtain ⟨m, rfl⟩ : ∃ q, m = q + 1 := ⟨m - 1, by omega⟩
    obtain rfl : i = 4 := by omega
    rw [fn_X5_swap_L9, if_pos (nI_le (Nat.le_refl _) (by decide))]
    exact ⟨σ, rfl, pF.rf, hp⟩
  | succ d ih =>
    intro i m σ h hp hi hm
    obtain ⟨m, rfl⟩ : ∃ q, m = q + 1 := ⟨m - 1, by omega⟩
    have hi4 : i < 4 := by omega
    rw [fn_X5_swap_L9, if_neg (nI_ge hi4 (by decide)), px_gg hi4 (by decide), nI_clamp (by omega), h.2 i hi4, pc_bl h.1 (hN i hi4), Option.bind_some, px_gi hi4 (by decide), nI_add]
    simp only [dc_let]
    generalize hα : dc_wI σ 27 i (qen (qbl L (N i) 4)) = α
    have fr : pF 27 27 σ α := by rw [← hα]; exact pF.rf.w (Nat.le_refl _) (Nat.le_refl _)
    obtain ⟨τ, e, f, g⟩ := ih (i + 1) m α (h.other (fr.mono (by decide) (by decide))) (fun k hk => by
      by_cases z : k = i
      · rw [z, ← hα, px_ws]
      · rw [← hα, px_wn (by omega)]; exact hp k (by omega)) (by omega) (by omega)
    exact ⟨τ, e, fr.tr f, g⟩
theorem pl_inr {σ : dc_HP} {pt : Nat → Nat} (h : ∀ a, a < 4 → σ.1 27 a = nI (pt a) ∧ pt a < 4) {k : Nat} (hk : k < 4) : ∀ d i a m, i + d = 4 → a < 4 → d < m → fn_X5_isInRing_L4 σ (nI k) m (nI a) (nI i) = some (if qwk pt k d a = true then .inl (nI 1) else .inr ()) := by
  intro d
  induction d with
  | zero =>
    intro i a m hi ha hm
    obtain ⟨m, rfl⟩ : ∃ q, m = q + 1 := ⟨m - 1, by omega⟩
    obtain rfl : i = 4 := by omega
    rw [fn_X5_isInRing_L4, if_pos (nI_le (Nat.le_refl _) (by decide))]
    rfl
  | succ d ih =>
    intro i a m hi ha hm
    obtain ⟨m, rfl⟩ : ∃ q, m = q + 1 := ⟨m - 1, by omega⟩
    have hp := h a ha
    rw [fn_X5_isInRing_L4, if_neg (nI_ge (by omega) (by decide)), px_withinN (by omega) (by decide) (by decide), if_pos (show 0 ≤ a ∧ a ≤ 3 by omega), Option.bind_some, if_neg (by decide), px_gg ha (by decide), nI_clamp (by omega), hp.1, nI_add, qwk]
    by_cases c : pt a = k
    · rw [if_pos (by rw [c]), if_pos c, if_pos rfl]
    · rw [if_neg (fun q => c ((nI_eq (by omega) (by omega)).mp q)), if_neg c]
      exact ih (i + 1) (pt a) m (by omega) hp.2 (by omega)
theorem pc_inr {σ : dc_HP} {pt : Nat → Nat} (h : ∀ a, a < 4 → σ.1 27 a = nI (pt a) ∧ pt a < 4) {k : Nat} (hk : k < 4) : fn_X5_isInRing σ (nI k) = some (nI (if qwk pt k 4 k = true then 1 else 0)) := by
  unfold fn_X5_isInRing
  rw [pl_inr h hk 4 0 k 200 rfl hk (by decide), Option.bind_some]
  cases qwk pt k 4 k <;> rfl
theorem pl_sw40 {L : Nat → Bool} {N pt : Nat → Nat} (x : Int32) : ∀ d i m σ, pRg σ L N → (∀ p, p < 4 → L p = true → ∀ a, a < 4 → σ.1 27 a = nI (pt a) ∧ pt a < 4) → i + d = 4 → d < m → ∃ τ, fn_X5_swap_L40 x m (nI (pm (fun j => decide (j < i) && qrg L pt j) 4)) (nI i) σ = some (nI (pm (qrg L pt) 4), τ) ∧ pF 26 26 σ τ ∧ ∀ k, k < 4 → τ.1 26 k = if i ≤ k ∧ qrg L pt k = true then nI (pt k) else σ.1 26 k := by
  intro d
  induction d with
  | zero =>
    intro i m σ h hp hi hm
    obtain ⟨m, rfl⟩ : ∃ q, m = q + 1 := ⟨m - 1, by omega⟩
    obtain rfl : i = 4 := by omega
    rw [fn_X5_swap_L40, if_pos (nI_le (Nat.le_refl _) (by decide)), pm_all]
    exact ⟨σ, rfl, pF.rf, fun k hk => (if_neg (by omega)).symm⟩
  | succ d ih =>
    intro i m σ h hp hi hm
    obtain ⟨m, rfl⟩ : ∃ q, m = q + 1 := ⟨m - 1, by omega⟩
    have hi4 : i < 4 := by omega
    have skip : qrg L pt i = false → ∃ τ, fn_X5_swap_L40 x m (nI (pm (fun j => decide (j < i) && qrg L pt j) 4)) (nI (i + 1)) σ = some (nI (pm (qrg L pt) 4), τ) ∧ pF 26 26 σ τ ∧ ∀ k, k < 4 → τ.1 26 k = if i ≤ k ∧ qrg L pt k = true then nI (pt k) else σ.1 26 k := by
      intro z
      obtain ⟨τ, e, f, g⟩ := ih (i + 1) m σ h hp (by omega) (by omega)
      rw [← pm_acc0 (g := qrg L pt) z] at e
      refine ⟨τ, e, f, fun k hk => ?_⟩
      rw [g k hk]
      by_cases q : k = i
      · rw [if_neg (by omega), if_neg (by rw [q, z]; simp)]
      · by_cases q2 : i + 1 ≤ k ∧ qrg L pt k = true
        · rw [if_pos q2, if_pos ⟨by omega, q2.2⟩]
        · rw [if_neg q2, if_neg (fun y => q2 ⟨by omega, y.2⟩)]
    rw [fn_X5_swap_L40, if_neg (nI_ge hi4 (by decide)), h.1, fn_X8_bit, px_pmbit _ (by decide) hi4, Option.bind_some, nI_add]
    cases c : L i with
    | false =>
      rw [if_neg (by decide)]
      exact skip (by unfold qrg; rw [c]; rfl)
    | true =>
      have hpt := hp i hi4 c
      rw [if_pos (by decide), pc_inr hpt hi4, Option.bind_some]
      cases c2 : qwk pt i 4 i with
      | false =>
        rw [if_pos (by decide)]
        exact skip (by unfold qrg; rw [c, c2]; rfl)
      | true =>
        have hr : qrg L pt i = true := by unfold qrg; rw [c, c2]; rfl
        rw [if_neg (by decide), px_gg hi4 (by decide), px_gg hi4 (by decide), nI_clamp (by omega), (hpt i hi4).1, px_set _ (by decide) hi4, pm_acc1 (g := qrg L pt) hr]
        simp only [dc_let]
        generalize hα : dc_wI σ 26 i (nI (pt i)) = α
        have fr : pF 26 26 σ α := by rw [← hα]; exact pF.rf.w (Nat.le_refl _) (Nat.le_refl _)
        obtain ⟨τ, e, f, g⟩ := ih (i + 1) m α (h.other (fr.mono (by decide) (by decide))) (fun p h1 h2 a ha => by rw [fr.1 27 a (by omega)]; exact hp p h1 h2 a ha) (by omega) (by omega)
        refine ⟨τ, e, fr.tr f, fun k hk => ?_⟩
        rw [g k hk]
        by_cases q : k = i
        · rw [if_neg (by omega), if_pos ⟨by omega, by rw [q]; exact hr⟩, q, ← hα, px_ws]
        · by_cases q2 : i + 1 ≤ k ∧ qrg L pt k = true
          · rw [if_pos q2, if_pos ⟨by omega, q2.2⟩]
          · rw [if_neg q2, if_neg (fun y => q2 ⟨by omega, y.2⟩), ← hα, px_wn (by omega)]
theorem pl_swap {N : Nat → Nat} (hN : ∀ k, k < 4 → qrk (N k)) : ∀ d i m σ (x : qLP), pRg σ x.1 N → (∀ k, k < 4 → x.1 k = false → σ.1 26 k = nI (x.2 k)) → i + d = 4 → d < m → ∃ τ, fn_X5_swap_L2 m (nI i) σ = some τ ∧ pF 24 27 σ τ ∧ ∀ k, k < 4 → (qri N d x).1 k = false → τ.1 26 k = nI ((qri N d x).2 k) := by
  intro d
  induction d with
  | zero =>
    intro i m σ x h hp hi hm
    obtain ⟨m, rfl⟩ : ∃ q, m = q + 1 := ⟨m - 1, by omega⟩
    obtain rfl : i = 4 := by omega
    rw [fn_X5_swap_L2, if_pos (nI_le (Nat.le_refl _) (by decide))]
    exact ⟨σ, rfl, pF.rf, hp⟩
  | succ d ih =>
    intro i m σ x h hp hi hm
    obtain ⟨m, rfl⟩ : ∃ q, m = q + 1 := ⟨m - 1, by omega⟩
    obtain ⟨α, a1, a2, a3⟩ := pl_sw9 hN (nI i) 4 0 200 σ h (fun k hk => absurd hk (Nat.not_lt_zero _)) rfl (by decide)
    have hα := h.other (a2.mono (by decide) (by decide))
    have hpt : ∀ p, p < 4 → x.1 p = true → ∀ a, a < 4 → α.1 27 a = nI (qpts x.1 N a) ∧ qpts x.1 N a < 4 := by
      intro p h1 h2 a ha
      have q := qpts_in hN h1 h2 ha
      rw [a3 a ha, q.1]
      exact ⟨rfl, q.2.2⟩
    obtain ⟨β, b1, b2, b3⟩ := pl_sw40 (L := x.1) (N := N) (pt := qpts x.1 N) (nI i) 4 0 200 α hα hpt rfl (by decide)
    rw [pm_none] at b1
    have hβ := hα.other (b2.mono (by decide) (by decide))
    rw [fn_X5_swap_L2, if_neg (nI_ge (by omega) (by decide)), a1, Option.bind_some, b1, Option.bind_some, nI_add, hβ.1, px_pdiff _ _ (by decide)]
    simp only [dc_let]
    generalize hγ : dc_wI β 24 3 (nI (pm (fun j => x.1 j && !qrg x.1 (qpts x.1 N) j) 4)) = γ
    have fr : pF 24 24 β γ := by rw [← hγ]; exact pF.rf.w (Nat.le_refl _) (Nat.le_refl _)
    have hG : pRg γ (qrs N x).1 N := ⟨by rw [← hγ, px_ws]; rfl, fun k hk => (fr.1 25 k (by omega)).trans (hβ.2 k hk)⟩
    obtain ⟨τ, e, f, g⟩ := ih (i + 1) m γ (qrs N x) hG (fun k hk hz => by
      rw [fr.1 26 k (by omega), b3 k hk]
      show _ = nI (if qrg x.1 (qpts x.1 N) k = true then qpts x.1 N k else x.2 k)
      by_cases c : qrg x.1 (qpts x.1 N) k = true
      · rw [if_pos ⟨Nat.zero_le _, c⟩, if_pos c]
      · rw [if_neg (fun q => c q.2), if_neg c, a2.1 26 k (by omega)]
        refine hp k hk ?_
        have hz : (x.1 k && !qrg x.1 (qpts x.1 N) k) = false := hz
        cases q : x.1 k with
        | false => rfl
        | true =>
          rw [q, Bool.true_and] at hz
          exact absurd (by simpa using hz) c) (by omega) (by omega)
    exact ⟨τ, e, ((a2.mono (by decide) (by decide)).tr (b2.mono (by decide) (by decide))).tr ((fr.mono (by decide) (by decide)).tr f), g⟩
