/-! nights: the tables of what is left, by sets of pieces -/
def qmin : Option Nat → Option Nat → Option Nat
  | none, b => b
  | some a, none => some a
  | some a, some b => some (if a ≤ b then a else b)
def qLe (o : Option Nat) (x : Nat) : Prop := ∃ a, o = some a ∧ a ≤ x
theorem qLe_n {x : Nat} : ¬ qLe none x := fun ⟨_, h, _⟩ => by cases h
theorem qLe_s {a x : Nat} : qLe (some a) x ↔ a ≤ x := ⟨fun ⟨_, h, g⟩ => by cases h; exact g, fun h => ⟨_, rfl, h⟩⟩
theorem qLe_min {a b : Option Nat} {x : Nat} : qLe (qmin a b) x ↔ qLe a x ∨ qLe b x := by
  cases a with
  | none => exact ⟨Or.inr, fun h => h.elim (fun q => (qLe_n q).elim) id⟩
  | some a =>
    cases b with
    | none => exact ⟨Or.inl, fun h => h.elim id (fun q => (qLe_n q).elim)⟩
    | some b =>
      rw [qmin, qLe_s, qLe_s, qLe_s]
      split <;> omega
theorem qLe_ext {a b : Option Nat} (h : ∀ x, qLe a x ↔ qLe b x) : a = b := by
  cases a with
  | none =>
    cases b with
    | none => rfl
    | some b => exact (qLe_n ((h b).mpr (qLe_s.mpr (Nat.le_refl _)))).elim
  | some a =>
    cases b with
    | none => exact (qLe_n ((h a).mp (qLe_s.mpr (Nat.le_refl _)))).elim
    | some b =>
      have h1 := qLe_s.mp ((h a).mp (qLe_s.mpr (Nat.le_refl _)))
      have h2 := qLe_s.mp ((h b).mpr (qLe_s.mpr (Nat.le_refl _)))
      rw [Nat.le_antisymm h2 h1]
def qbn (d w : Nat) : Nat := (d - w) + (d - w) / 10
theorem qbn_mono {a b w : Nat} (h : a ≤ b) : qbn a w ≤ qbn b w := by
  unfold qbn
  have : a - w ≤ b - w := by omega
  have := Nat.div_le_div_right (c := 10) this
  omega
def qaf (f : Nat → Bool) (w : Nat → Nat) (p : Nat) : Option Nat → Option Nat
  | none => none
  | some x => if f p = true then some (qbn x (w p)) else none
theorem qaf_le {f : Nat → Bool} {w : Nat → Nat} {p x : Nat} {o : Option Nat} : qLe (qaf f w p o) x ↔ f p = true ∧ ∃ y, qLe o y ∧ qbn y (w p) ≤ x := by
  cases o with
  | none => exact ⟨fun h => (qLe_n h).elim, fun ⟨_, _, h, _⟩ => (qLe_n h).elim⟩
  | some a =>
    rw [qaf]
    cases hf : f p with
    | false =>
      rw [if_neg (by decide)]
      exact ⟨fun h => (qLe_n h).elim, fun h => by cases h.1⟩
    | true =>
      rw [if_pos rfl, qLe_s]
      exact ⟨fun h => ⟨rfl, a, qLe_s.mpr (Nat.le_refl _), h⟩, fun ⟨_, y, h, g⟩ => Nat.le_trans (qbn_mono (qLe_s.mp h)) g⟩
def qfold (g : Nat → Option Nat) : Nat → Option Nat
  | 0 => none
  | n + 1 => qmin (qfold g n) (g n)
theorem qfoldx_le {g : Nat → Option Nat} {x : Nat} : ∀ {n : Nat}, qLe (qfold g n) x ↔ ∃ k, k < n ∧ qLe (g k) x := by
  intro n
  induction n with
  | zero => exact ⟨fun h => (qLe_n h).elim, fun ⟨_, h, _⟩ => absurd h (Nat.not_lt_zero _)⟩
  | succ n ih =>
    rw [qfold, qLe_min, ih]
    constructor
    · rintro (⟨k, h, g⟩ | g)
      · exact ⟨k, by omega, g⟩
      · exact ⟨n, by omega, g⟩
    · rintro ⟨k, h, g⟩
      by_cases e : k = n
      · subst e; exact Or.inr g
      · exact Or.inl ⟨k, by omega, g⟩
theorem qfold_congr {g h : Nat → Option Nat} : ∀ {n : Nat}, (∀ k, k < n → g k = h k) → qfold g n = qfold h n := by
  intro n
  induction n with
  | zero => intro _; rfl
  | succ n ih => intro e; rw [qfold, qfold, ih (fun k hk => e k (by omega)), e n (by omega)]
theorem qmin_of {a b : Option Nat} {x : Nat} (h : qmin a b = some x) : a = some x ∨ b = some x := by
  cases a with
  | none => exact Or.inr h
  | some a =>
    cases b with
    | none => exact Or.inl h
    | some b =>
      rw [qmin] at h
      split at h
      · exact Or.inl h
      · exact Or.inr h
theorem qfold_of {g : Nat → Option Nat} {x : Nat} : ∀ {n : Nat}, qfold g n = some x → ∃ k, k < n ∧ g k = some x := by
  intro n
  induction n with
  | zero => intro h; cases h
  | succ n ih =>
    intro h
    rcases qmin_of h with h | h
    · obtain ⟨k, a, b⟩ := ih h
      exact ⟨k, by omega, b⟩
    · exact ⟨n, by omega, h⟩
theorem qfold_none {g : Nat → Option Nat} {n : Nat} (h : ∀ k, k < n → g k = none) : qfold g n = none := by
  cases e : qfold g n with
  | none => rfl
  | some x =>
    obtain ⟨k, a, b⟩ := qfold_of e
    rw [h k a] at b
    cases b
abbrev qB : Type := Nat → Option (Option Nat)
def qsx (f : Nat → Bool) (w : Nat → Nat) (t : Nat → Option Nat) (S k : Nat) : Option Nat := if S.testBit k = true then qaf f w k (t (S - 2 ^ k)) else none
def qcell (bs : qB) (f : Nat → Bool) (w : Nat → Nat) (t : Nat → Option Nat) (S : Nat) : Option Nat := match bs S with
  | some o => o
  | none => qfold (qsx f w t S) 6
def qtab (bs : qB) (f : Nat → Bool) (w : Nat → Nat) : Nat → Nat → Option Nat
  | 0 => fun _ => none
  | n + 1 => fun j => if j = n then qcell bs f w (qtab bs f w n) n else qtab bs f w n j
def qT (bs : qB) (f : Nat → Bool) (w : Nat → Nat) (S : Nat) : Option Nat := qtab bs f w (S + 1) S
theorem qtab_lt {bs : qB} {f : Nat → Bool} {w : Nat → Nat} : ∀ n j, j < n → qtab bs f w n j = qT bs f w j := by
  intro n
  induction n with
  | zero => intro j h; omega
  | succ n ih =>
    intro j h
    by_cases e : j = n
    · subst e; rfl
    · rw [qtab]
      dsimp only
      rw [if_neg e]; exact ih j (by omega)
def qbt (S : Nat) : Nat := pc (fun k => S.testBit k) 8
set_option maxRecDepth 100000 in
theorem qbit : ∀ S, S < 64 → ∀ k, k < 6 → S.testBit k = true → 2 ^ k ≤ S ∧ S - 2 ^ k < S ∧ qbt (S - 2 ^ k) + 1 = qbt S ∧ (S - 2 ^ k = 0 → S = 2 ^ k) := by decide +kernel
set_option maxRecDepth 100000 in
theorem qbit2a : ∀ S, S < 64 → ∀ k, k < 6 → ∀ p, p < 6 → (S.testBit k && decide ((S - 2 ^ k) &&& 2 ^ p = 2 ^ p)) = true → (decide (S &&& 2 ^ p = 2 ^ p) && decide (¬ S = 2 ^ p) && decide (¬ k = p)) = true := by decide +kernel
theorem qbit2 : ∀ S, S < 64 → ∀ k, k < 6 → S.testBit k = true → ∀ p, p < 6 → (S - 2 ^ k) &&& 2 ^ p = 2 ^ p → S &&& 2 ^ p = 2 ^ p ∧ S ≠ 2 ^ p ∧ k ≠ p := by
  intro S hS k hk c p hp m
  have e := qbit2a S hS k hk p hp (by rw [c, decide_eq_true m]; rfl)
  simp only [Bool.and_eq_true, decide_eq_true_iff] at e
  exact ⟨e.1.1, e.1.2, e.2⟩
theorem qbit3 : ∀ p, p < 6 → (2 ^ p).testBit p = true ∧ 2 ^ p < 64 ∧ 2 ^ p ≠ 0 ∧ ¬ (0 &&& 2 ^ p = 2 ^ p) := by decide +kernel
theorem qbt_le (S : Nat) : qbt S ≤ 8 := pc_le _ _
set_option maxRecDepth 100000 in
theorem qbt_6 : ∀ S, S < 64 → qbt S ≤ 6 ∧ (S ≠ 0 → 0 < qbt S) := by decide +kernel
theorem qT_eq {bs : qB} {f : Nat → Bool} {w : Nat → Nat} {S : Nat} (hS : S < 64) : qT bs f w S = qcell bs f w (qT bs f w) S := by
  show qtab bs f w (S + 1) S = _
  rw [qtab]
  dsimp only
  rw [if_pos rfl]
  unfold qcell
  cases bs S with
  | some o => rfl
  | none =>
    apply qfold_congr
    intro k hk
    unfold qsx
    cases c : S.testBit k with
    | false => rfl
    | true =>
      rw [if_pos rfl, if_pos rfl, qtab_lt _ _ (qbit S hS k hk c).2.1]
def qgr : Nat → Nat
  | 0 => 999
  | k + 1 => qgr k + qgr k / 10
theorem qgr_le : ∀ k, k < 7 → qgr k ≤ 1764 := by decide
theorem qT_gr {bs : qB} {f : Nat → Bool} {w : Nat → Nat} (hb : ∀ S o x, bs S = some o → o = some x → x ≤ qgr (qbt S)) : ∀ n S, S < n → S < 64 → ∀ x, qT bs f w S = some x → x ≤ qgr (qbt S) := by
  intro n
  induction n with
  | zero => intro S h; omega
  | succ n ih =>
    intro S h hS x e
    rw [qT_eq hS] at e
    unfold qcell at e
    cases c : bs S with
    | some o =>
      rw [c] at e
      exact hb S o x c e
    | none =>
      rw [c] at e
      obtain ⟨k, hk, g⟩ := qfold_of e
      unfold qsx at g
      cases c2 : S.testBit k with
      | false => rw [c2, if_neg (by decide)] at g; cases g
      | true =>
        rw [c2, if_pos rfl] at g
        obtain ⟨b1, b2, b3, b4⟩ := qbit S hS k hk c2
        cases c3 : qT bs f w (S - 2 ^ k) with
        | none => rw [c3] at g; cases g
        | some y =>
          have hy := ih (S - 2 ^ k) (by omega) (by omega) y c3
          rw [c3, qaf] at g
          split at g
          · have g2 := Option.some.inj g
            rw [← b3, qgr, ← g2]
            unfold qbn
            have : y - w k ≤ qgr (qbt (S - 2 ^ k)) := by omega
            have := Nat.div_le_div_right (c := 10) this
            omega
          · cases g
theorem qT_le {bs : qB} {f : Nat → Bool} {w : Nat → Nat} (hb : ∀ S o x, bs S = some o → o = some x → x ≤ qgr (qbt S)) {S : Nat} (hS : S < 64) {x : Nat} (h : qT bs f w S = some x) : x ≤ 1764 :=
  Nat.le_trans (qT_gr hb (S + 1) S (by omega) hS x h) (qgr_le _ (by have := (qbt_6 S hS).1; omega))
def qbb (m : Nat) (o : Option Nat) : qB := fun S => if S = m then some o else if S &&& m = m then none else some none
theorem qbb_gr0 {d : Nat} (hd : d ≤ 999) : ∀ S o x, qbb 0 (some d) S = some o → o = some x → x ≤ qgr (qbt S) := by
  intro S o x h e
  unfold qbb at h
  by_cases c : S = 0
  · rw [if_pos c] at h
    have h := Option.some.inj h
    subst c
    rw [e] at h
    have h := Option.some.inj h
    rw [← h, show qbt 0 = 0 from by decide]
    exact hd
  · rw [if_neg c] at h
    split at h
    · cases h
    · rw [← Option.some.inj h] at e
      cases e
theorem qbb_gr1 {f : Nat → Bool} {w : Nat → Nat} {d p : Nat} (hd : d ≤ 999) (hp : p < 6) : ∀ S o x, qbb (2 ^ p) (qaf f w p (some d)) S = some o → o = some x → x ≤ qgr (qbt S) := by
  intro S o x h e
  unfold qbb at h
  by_cases c : S = 2 ^ p
  · rw [if_pos c] at h
    have h := Option.some.inj h
    rw [e, qaf] at h
    split at h
    · have h := Option.some.inj h
      have b : ∀ p, p < 6 → qbt (2 ^ p) = 1 := by decide +kernel
      rw [← h, c, b p hp, qgr, qgr]
      unfold qbn
      have : d - w p ≤ 999 := by omega
      have := Nat.div_le_div_right (c := 10) this
      omega
    · cases h
  · rw [if_neg c] at h
    split at h
    · cases h
    · rw [← Option.some.inj h] at e
      cases e
theorem qst_le {f : Nat → Bool} {w : Nat → Nat} {t : Nat → Option Nat} {S x : Nat} : qLe (qfold (qsx f w t S) 6) x ↔ ∃ k, k < 6 ∧ S.testBit k = true ∧ f k = true ∧ ∃ y, qLe (t (S - 2 ^ k)) y ∧ qbn y (w k) ≤ x := by
  rw [qfoldx_le]
  constructor
  · rintro ⟨k, hk, h⟩
    unfold qsx at h
    split at h
    · rename_i c
      have := qaf_le.mp h
      exact ⟨k, hk, c, this.1, this.2⟩
    · exact (qLe_n h).elim
  · rintro ⟨k, hk, c, h1, h2⟩
    refine ⟨k, hk, ?_⟩
    unfold qsx
    rw [if_pos c]
    exact qaf_le.mpr ⟨h1, h2⟩
abbrev qT0 (f : Nat → Bool) (w : Nat → Nat) (d : Nat) : Nat → Option Nat := qT (qbb 0 (some d)) f w
abbrev qT1 (f : Nat → Bool) (w : Nat → Nat) (d p : Nat) : Nat → Option Nat := qT (qbb (2 ^ p) (qaf f w p (some d))) f w
theorem qT0_0 {f : Nat → Bool} {w : Nat → Nat} {d : Nat} : qT0 f w d 0 = some d := by
  rw [qT0, qT_eq (by decide)]
  rfl
theorem qT0_s {f : Nat → Bool} {w : Nat → Nat} {d S x : Nat} (hS : S < 64) (h0 : S ≠ 0) : qLe (qT0 f w d S) x ↔ ∃ k, k < 6 ∧ S.testBit k = true ∧ f k = true ∧ ∃ y, qLe (qT0 f w d (S - 2 ^ k)) y ∧ qbn y (w k) ≤ x := by
  rw [qT0, qT_eq hS]
  unfold qcell
  rw [show qbb 0 (some d) S = none from by unfold qbb; rw [if_neg h0, if_pos (Nat.and_zero S)]]
  exact qst_le
theorem qT1_b {f : Nat → Bool} {w : Nat → Nat} {d p : Nat} (hp : p < 6) : qT1 f w d p (2 ^ p) = qaf f w p (some d) := by
  rw [qT1, qT_eq (qbit3 p hp).2.1]
  unfold qcell
  rw [show qbb (2 ^ p) (qaf f w p (some d)) (2 ^ p) = some (qaf f w p (some d)) from if_pos rfl]
theorem qT1_n {f : Nat → Bool} {w : Nat → Nat} {d p S : Nat} (hS : S < 64) (h : ¬ S &&& 2 ^ p = 2 ^ p) : qT1 f w d p S = none := by
  rw [qT1, qT_eq hS]
  unfold qcell
  rw [show qbb (2 ^ p) (qaf f w p (some d)) S = some none from by
    unfold qbb
    rw [if_neg (fun e => h (by rw [e, Nat.and_self])), if_neg h]]
theorem qT1_s {f : Nat → Bool} {w : Nat → Nat} {d p S : Nat} (hS : S < 64) (h : S &&& 2 ^ p = 2 ^ p) (hn : S ≠ 2 ^ p) : qT1 f w d p S = qfold (qsx f w (qT1 f w d p) S) 6 := by
  rw [qT1, qT_eq hS]
  unfold qcell
  rw [show qbb (2 ^ p) (qaf f w p (some d)) S = none from by
    unfold qbb
    rw [if_neg hn, if_pos h]]
theorem qT_main {f : Nat → Bool} {w : Nat → Nat} {d : Nat} : ∀ n S, S < n → S < 64 → S ≠ 0 → ∀ x, qLe (qT0 f w d S) x ↔ ∃ p, p < 6 ∧ qLe (qT1 f w d p S) x := by
  intro n
  induction n with
  | zero => intro S h; omega
  | succ n ih =>
    intro S h hS h0 x
    rw [qT0_s hS h0]
    constructor
    · rintro ⟨k, hk, c, hf, y, hy, hx⟩
      obtain ⟨b1, b2, b3, b4⟩ := qbit S hS k hk c
      by_cases z : S - 2 ^ k = 0
      · refine ⟨k, hk, ?_⟩
        rw [b4 z, qT1_b hk, qaf_le]
        rw [z, qT0_0] at hy
        exact ⟨hf, y, hy, hx⟩
      · obtain ⟨p, hp, g⟩ := (ih (S - 2 ^ k) (by omega) (by omega) z y).mp hy
        have m : (S - 2 ^ k) &&& 2 ^ p = 2 ^ p := by
          by_cases m : (S - 2 ^ k) &&& 2 ^ p = 2 ^ p
          · exact m
          · rw [qT1_n (by omega) m] at g
            exact (qLe_n g).elim
        obtain ⟨m1, m2, _⟩ := qbit2 S hS k hk c p hp m
        refine ⟨p, hp, ?_⟩
        rw [qT1_s hS m1 m2, qst_le]
        exact ⟨k, hk, c, hf, y, g, hx⟩
    · rintro ⟨p, hp, g⟩
      by_cases m : S &&& 2 ^ p = 2 ^ p
      · by_cases e : S = 2 ^ p
        · rw [e, qT1_b hp, qaf_le] at g
          obtain ⟨hf, y, hy, hx⟩ := g
          refine ⟨p, hp, by rw [e]; exact (qbit3 p hp).1, hf, y, ?_, hx⟩
          rw [e, Nat.sub_self, qT0_0]
          exact hy
        · rw [qT1_s hS m e, qst_le] at g
          obtain ⟨k, hk, c, hf, y, hy, hx⟩ := g
          obtain ⟨b1, b2, b3, b4⟩ := qbit S hS k hk c
          refine ⟨k, hk, c, hf, y, ?_, hx⟩
          have z : S - 2 ^ k ≠ 0 := by
            intro z
            rw [z, qT1_n (by decide) (qbit3 p hp).2.2.2] at hy
            exact qLe_n hy
          exact (ih (S - 2 ^ k) (by omega) (by omega) z y).mpr ⟨p, hp, hy⟩
      · rw [qT1_n hS m] at g
        exact (qLe_n g).elim
theorem qT1_f {f : Nat → Bool} {w : Nat → Nat} {d p : Nat} (hp : p < 6) (hf : f p = false) : ∀ n S, S < n → S < 64 → qT1 f w d p S = none := by
  intro n
  induction n with
  | zero => intro S h; omega
  | succ n ih =>
    intro S h hS
    by_cases m : S &&& 2 ^ p = 2 ^ p
    · by_cases e : S = 2 ^ p
      · rw [e, qT1_b hp, qaf, hf, if_neg (by decide)]
      · rw [qT1_s hS m e]
        apply qfold_none
        intro k hk
        unfold qsx
        cases c : S.testBit k with
        | false => rfl
        | true =>
          have := (qbit S hS k hk c).2.1
          rw [if_pos rfl, ih (S - 2 ^ k) (by omega) (by omega)]
          rfl
    · exact qT1_n hS m
def qz (T : Nat → Option Nat) (S : Nat) : Option Nat := if T S = some 0 then some (qbt S) else none
def qnf (T : Nat → Option Nat) : Option Nat := qfold (qz T) 64
theorem qz_le {T : Nat → Option Nat} {S x : Nat} : qLe (qz T S) x ↔ qLe (T S) 0 ∧ qbt S ≤ x := by
  unfold qz
  by_cases c : T S = some 0
  · rw [if_pos c, c, qLe_s, qLe_s]
    exact ⟨fun h => ⟨Nat.le_refl _, h⟩, fun h => h.2⟩
  · rw [if_neg c]
    refine ⟨fun h => (qLe_n h).elim, fun h => ?_⟩
    obtain ⟨a, e, ha⟩ := h.1
    exact (c (by rw [e]; congr 1; omega)).elim
theorem qnf_le {T : Nat → Option Nat} {x : Nat} : qLe (qnf T) x ↔ ∃ S, S < 64 ∧ qLe (T S) 0 ∧ qbt S ≤ x := by
  unfold qnf
  rw [qfoldx_le]
  constructor
  · rintro ⟨k, h, g⟩
    exact ⟨k, h, qz_le.mp g⟩
  · rintro ⟨k, h, g⟩
    exact ⟨k, h, qz_le.mpr g⟩
theorem qnf_main {f : Nat → Bool} {w : Nat → Nat} {d : Nat} (hd : 0 < d) {x : Nat} : qLe (qnf (qT0 f w d)) x ↔ ∃ p, p < 6 ∧ qLe (qnf (qT1 f w d p)) x := by
  rw [qnf_le]
  constructor
  · rintro ⟨S, hS, h, hx⟩
    have h0 : S ≠ 0 := by
      intro e
      rw [e, qT0_0, qLe_s] at h
      omega
    obtain ⟨p, hp, g⟩ := (qT_main (S + 1) S (by omega) hS h0 0).mp h
    exact ⟨p, hp, qnf_le.mpr ⟨S, hS, g, hx⟩⟩
  · rintro ⟨p, hp, h⟩
    obtain ⟨S, hS, g, hx⟩ := qnf_le.mp h
    have h0 : S ≠ 0 := by
      intro e
      rw [e, qT1_n (by decide) (qbit3 p hp).2.2.2] at g
      exact qLe_n g
    exact ⟨S, hS, (qT_main (S + 1) S (by omega) hS h0 0).mpr ⟨p, hp, g⟩, hx⟩
/-! the first of the least -/
def qfd (E : Nat → Option Nat) : Nat → Option (Nat × Nat)
  | 0 => none
  | i + 1 => match E i, qfd E i with
    | none, a => a
    | some e, none => some (e, i)
    | some e, some a => if a.1 ≤ e then some a else some (e, i)
theorem qfd_n {E : Nat → Option Nat} : ∀ {n : Nat}, qfd E n = none → ∀ j, j < n → E j = none := by
  intro n
  induction n with
  | zero => intro _ j h; omega
  | succ n ih =>
    intro h j hj
    rw [qfd] at h
    cases c : E n with
    | none =>
      rw [c] at h
      by_cases e : j = n
      · rw [e, c]
      · exact ih h j (by omega)
    | some e =>
      rw [c] at h
      cases c2 : qfd E n with
      | none => rw [c2] at h; cases h
      | some a =>
        rw [c2] at h
        dsimp only at h
        split at h <;> cases h
theorem qfd_s {E : Nat → Option Nat} : ∀ {n m p : Nat}, qfd E n = some (m, p) → p < n ∧ E p = some m ∧ (∀ j, j < n → ∀ e, E j = some e → m ≤ e) ∧ ∀ j, j < p → E j ≠ some m := by
  intro n
  induction n with
  | zero => intro m p h; cases h
  | succ n ih =>
    intro m p h
    rw [qfd] at h
    cases c : E n with
    | none =>
      rw [c] at h
      obtain ⟨h1, h2, h3, h4⟩ := ih h
      refine ⟨by omega, h2, fun j hj e he => ?_, h4⟩
      by_cases z : j = n
      · rw [z, c] at he; cases he
      · exact h3 j (by omega) e he
    | some e =>
      rw [c] at h
      cases c2 : qfd E n with
      | none =>
        rw [c2] at h
        cases h
        have hn := qfd_n c2
        refine ⟨by omega, c, fun j hj e' he => ?_, fun j hj q => ?_⟩
        · by_cases z : j = n
          · rw [z, c] at he; cases he; exact Nat.le_refl _
          · rw [hn j (by omega)] at he; cases he
        · rw [hn j hj] at q; cases q
      | some a =>
        obtain ⟨a1, a2⟩ := a
        rw [c2] at h
        dsimp only at h
        obtain ⟨h1, h2, h3, h4⟩ := ih c2
        split at h
        · rename_i q
          cases h
          refine ⟨by omega, h2, fun j hj e' he => ?_, h4⟩
          by_cases z : j = n
          · rw [z, c] at he; cases he; exact q
          · exact h3 j (by omega) e' he
        · rename_i q
          cases h
          refine ⟨by omega, c, fun j hj e' he => ?_, fun j hj z => ?_⟩
          · by_cases z : j = n
            · rw [z, c] at he; cases he; exact Nat.le_refl _
            · have := h3 j (by omega) e' he; omega
          · have := h3 j hj _ z; omega
theorem qfd_nf {f : Nat → Bool} {w : Nat → Nat} {d : Nat} (hd : 0 < d) : qnf (qT0 f w d) = (qfd (fun p => qnf (qT1 f w d p)) 6).map (·.1) := by
  apply qLe_ext
  intro x
  rw [qnf_main hd]
  cases c : qfd (fun p => qnf (qT1 f w d p)) 6 with
  | none =>
    have := qfd_n c
    constructor
    · rintro ⟨p, hp, g⟩
      have e : qnf (qT1 f w d p) = none := this p hp
      rw [e] at g
      exact (qLe_n g).elim
    · intro h
      exact (qLe_n h).elim
  | some a =>
    obtain ⟨m, p⟩ := a
    obtain ⟨h1, h2, h3, h4⟩ := qfd_s c
    rw [show Option.map (fun a : Nat × Nat => a.1) (some (m, p)) = some m from rfl, qLe_s]
    constructor
    · rintro ⟨q, hq, e, he, hx⟩
      exact Nat.le_trans (h3 q hq e he) hx
    · intro hx
      exact ⟨p, h1, m, h2, hx⟩
