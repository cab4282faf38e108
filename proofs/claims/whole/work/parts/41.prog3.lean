theorem qps_le {V : pV} (ho : pOk V) {s : Nat} : qps V s 6 < 2 ^ 31 := by
  have b : ∀ i, i < 6 → qw V i * qn4 V i ≤ 7000 := by
    intro i hi
    have h1 := ho.2.2.2.2.1 i hi
    have h2 := ho.2.2.2.2.2.1 i hi
    have n := ho.2.2.2.1 i hi
    have n0 := n 0 (by decide)
    have n1 := n 1 (by decide)
    have n2 := n 2 (by decide)
    have n3 := n 3 (by decide)
    have h12 : qn4 V i ≤ 12 := by unfold qn4; omega
    exact Nat.le_trans (Nat.mul_le_mul (Nat.mul_le_mul h1 h2) h12) (show 60 * 9 * 12 ≤ 7000 by decide)
  have st : ∀ i, i ≤ 6 → qps V s i ≤ 7000 * i := by
    intro i
    induction i with
    | zero => intro _; exact Nat.le_refl _
    | succ i ih =>
      intro hi
      have h1 := ih (by omega)
      have h2 := b i (by omega)
      rw [qps]
      generalize qw V i * qn4 V i = x at h2 ⊢
      generalize qps V s i = z at h1 ⊢
      cases s.testBit i with
      | false => rw [if_neg (by decide)]; omega
      | true => rw [if_pos rfl]; omega
  have := st 6 (by decide)
  omega
theorem qbs_le {V : pV} (ho : pOk V) {s : Nat} : qbs V s 6 < 2 ^ 31 := by
  have st : ∀ i, i ≤ 6 → qbs V s i ≤ i * 60 := by
    intro i
    induction i with
    | zero => intro _; exact Nat.le_refl _
    | succ i ih =>
      intro hi
      have h1 := ih (by omega)
      have h2 := ho.2.2.2.2.1 i (by omega)
      rw [qbs]
      generalize pba V i = x at h2 ⊢
      generalize qbs V s i = z at h1 ⊢
      cases s.testBit i with
      | false => rw [if_neg (by decide)]; omega
      | true => rw [if_pos rfl]; omega
  have := st 6 (by decide)
  omega
def qpg (V : pV) (c : Nat) : Nat → Nat → Nat → Nat
  | 0, _, s => s
  | f + 1, i, s => qpg V c f (i + 1) (if c < qbs V i 6 then s else if qps V i 6 ≤ qps V s 6 then s else i)
theorem pl_prog {σ : dc_HP} {V : pV} (h : pC σ 1 V) (ho : pOk V) {c : Nat} (hc : c ≤ 99) (y : Int32) : ∀ d i m s, i + d = 64 → d < m → s < 64 → fn_X8_programme_L30 σ (nI c) y m (nI (qps V s 6)) (nI s) (nI i) = some (nI (qps V (qpg V c d i s) 6), nI (qpg V c d i s)) := by
  intro d
  induction d with
  | zero =>
    intro i m s hi hm hs
    obtain ⟨m, rfl⟩ : ∃ n, m = n + 1 := ⟨m - 1, by omega⟩
    unfold fn_X8_programme_L30
    rw [if_pos (nI_le (by omega) (by omega))]
    rfl
  | succ d ih =>
    intro i m s hi hm hs
    obtain ⟨m, rfl⟩ : ∃ n, m = n + 1 := ⟨m - 1, by omega⟩
    unfold fn_X8_programme_L30
    rw [if_neg (nI_ge (by omega) (by decide)), pc_pays h (by omega), Option.bind_some, pc_bars h (by omega), Option.bind_some, nI_add, qpg]
    by_cases c1 : c < qbs V i 6
    · rw [if_pos ((nI_ltI (by omega) (qbs_le ho)).mpr c1), if_pos c1]
      exact ih (i + 1) m s (by omega) (by omega) hs
    · rw [if_neg (fun q => c1 ((nI_ltI (by omega) (qbs_le ho)).mp q)), if_neg c1]
      by_cases c2 : qps V i 6 ≤ qps V s 6
      · rw [if_pos (nI_le c2 (qps_le ho)), if_pos c2]
        exact ih (i + 1) m s (by omega) (by omega) hs
      · rw [if_neg (nI_ge (by omega) (qps_le ho)), if_neg c2]
        exact ih (i + 1) m i (by omega) (by omega) (by omega)
theorem pl_mprog {σ : dc_HP} {V : pV} (h : pM σ V) (ho : pOk V) {c : Nat} (hc : c ≤ 99) (y : Int32) : ∀ d i m s, i + d = 64 → d < m → s < 64 → fn_X9_programme_L30 σ (nI c) y m (nI s) (nI i) = some (nI (qpg V c d i s)) ∧ qpg V c d i s < 64 := by
  intro d
  induction d with
  | zero =>
    intro i m s hi hm hs
    obtain ⟨m, rfl⟩ : ∃ n, m = n + 1 := ⟨m - 1, by omega⟩
    unfold fn_X9_programme_L30
    rw [if_pos (nI_le (by omega) (by omega))]
    exact ⟨rfl, hs⟩
  | succ d ih =>
    intro i m s hi hm hs
    obtain ⟨m, rfl⟩ : ∃ n, m = n + 1 := ⟨m - 1, by omega⟩
    unfold fn_X9_programme_L30
    rw [if_neg (nI_ge (by omega) (by decide)), pm_bars h (by omega), Option.bind_some, nI_add, qpg]
    by_cases c1 : c < qbs V i 6
    · rw [if_pos ((nI_ltI (by omega) (qbs_le ho)).mpr c1), if_pos c1]
      exact ih (i + 1) m s (by omega) (by omega) hs
    · rw [if_neg (fun q => c1 ((nI_ltI (by omega) (qbs_le ho)).mp q)), if_neg c1, pm_pays h (by omega), Option.bind_some, pm_pays h hs, Option.bind_some]
      by_cases c2 : qps V i 6 ≤ qps V s 6
      · rw [if_pos (nI_le c2 (qps_le ho)), if_pos c2]
        exact ih (i + 1) m s (by omega) (by omega) hs
      · rw [if_neg (nI_ge (by omega) (qps_le ho)), if_neg c2]
        exact ih (i + 1) m i (by omega) (by omega) (by omega)
