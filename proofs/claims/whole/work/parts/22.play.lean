/-! the pad is played -/
def qfst (f : Nat → Bool) : Nat := if f 0 then 0 else if f 1 then 1 else if f 2 then 2 else if f 3 then 3 else if f 4 then 4 else if f 5 then 5 else if f 6 then 6 else 7
set_option maxRecDepth 100000 in
theorem px_fst8 : ∀ b0 b1 b2 b3 b4 b5 b6 b7 : Bool, (b0 || b1 || b2 || b3 || b4 || b5 || b6 || b7) = true → fn_X9_leastOf (nI (pm (po b0 b1 b2 b3 b4 b5 b6 b7) 8)) = some (nI (qfst (po b0 b1 b2 b3 b4 b5 b6 b7))) := by decide +kernel
theorem qfst_congr {f g : Nat → Bool} (h : ∀ k, k < 8 → f k = g k) : qfst f = qfst g := by
  unfold qfst
  rw [h 0 (by decide), h 1 (by decide), h 2 (by decide), h 3 (by decide), h 4 (by decide), h 5 (by decide), h 6 (by decide)]
theorem px_fst {f : Nat → Bool} (h : pm f 8 ≠ 0) : fn_X9_leastOf (nI (pm f 8)) = some (nI (qfst f)) := by
  have hx : (f 0 || f 1 || f 2 || f 3 || f 4 || f 5 || f 6 || f 7) = true := by
    cases q : (f 0 || f 1 || f 2 || f 3 || f 4 || f 5 || f 6 || f 7) with
    | true => rfl
    | false =>
      exfalso
      apply h
      simp only [Bool.or_eq_false_iff] at q
      obtain ⟨⟨⟨⟨⟨⟨⟨q0, q1⟩, q2⟩, q3⟩, q4⟩, q5⟩, q6⟩, q7⟩ := q
      simp [pm, q0, q1, q2, q3, q4, q5, q6, q7]
  have e := px_fst8 (f 0) (f 1) (f 2) (f 3) (f 4) (f 5) (f 6) (f 7) hx
  rw [pm_congr (po_eq f), qfst_congr (po_eq f)] at e
  exact e
theorem qhap_th {k a v : Nat} {s : pT} : pth (qhap k a v s).1 = pth s.1 := by
  unfold qhap
  split
  · exact (qspl_keep (p := a) (d := 4) (v := 0) (s := s)).1
  · repeat' split
    all_goals rfl
abbrev pR : Type := pT × Nat × Option (Nat × Nat)
def qnew (V W : pV) : Nat → Bool := fun j => pth V j && decide (0 < pde V j) && decide (pde W j = 0)
def qfr (k : Nat) (V W : pV) (o : Option (Nat × Nat)) : Option (Nat × Nat) := match o with
  | some x => some x
  | none => if pm (qnew V W) 8 = 0 then none else some (k, qfst (qnew V W))
def qone (k : Nat) (a : pA) (r : pR) : pR := (qhap a.1 a.2.1 a.2.2 r.1, r.2.1 + (if a.1 = 0 then 1 else 0), qfr k r.1.1 (qhap a.1 a.2.1 a.2.2 r.1).1 r.2.2)
def qrun : List pA → Nat → pR → (pR × Nat) × Option Nat
  | [], k, r => ((r, k), none)
  | a :: L, k, r => if qwhy r.1.1 a.1 a.2.1 a.2.2 = 0 then qrun L (k + 1) (qone k a r) else ((r, k), some (qwhy r.1.1 a.1 a.2.1 a.2.2))
def qf1 (o : Option (Nat × Nat)) : Int32 := match o with
  | none => (-6 : Int32)
  | some x => nI x.1
def qf2 (o : Option (Nat × Nat)) : Int32 := match o with
  | none => (-6 : Int32)
  | some x => nI x.2
/-- the class's trial in the middle of a play: k acts done -/
def pTr (σ : dc_HP) (r : pR) (k : Nat) : Prop := pCS σ 15 r.1 ∧ σ.1 14 1 = nI k ∧ σ.1 14 4 = nI r.2.1 ∧ σ.1 14 5 = qf1 r.2.2 ∧ σ.1 14 6 = qf2 r.2.2 ∧ σ.1 14 2 = (-6 : Int32) ∧ σ.1 14 3 = (-6 : Int32)
theorem pF.at {lo hi : Nat} {σ τ : dc_HP} (h : pF lo hi σ τ) {c : Nat} (j : Nat) (hc : c < lo ∨ hi < c) : τ.1 c j = σ.1 c j := h.1 c j hc
theorem pp_act {σ : dc_HP} {P : pPd} {s : pT} (hk : pPok P) (h : pCS σ 15 s) (ho : pOk s.1) {i : Nat} {a : pA} {l : Nat} (hs : qstep P i = .inr (a, l)) : ∃ r τ, fn_X7_act σ (nI (qsg P i)) (nI (qsg P (i + 1))) (nI (qsg P (i + 2))) = some (r, τ) ∧ pDo σ 15 a.1 a.2.1 a.2.2 s r τ := by
  have b0 := qsg_le hk i
  have b1 := qsg_le hk (i + 1)
  have b2 := qsg_le hk (i + 2)
  unfold fn_X7_act
  unfold qstep at hs
  have n1 : ∀ k : Nat, k < 2 ^ 31 → (nI (qsg P (i + 1)) = nI k ↔ qsg P (i + 1) = k) := fun k hk => nI_eq (by omega) hk
  have n0 : ∀ k : Nat, k < 2 ^ 31 → (nI (qsg P i) = nI k ↔ qsg P i = k) := fun k hk => nI_eq (by omega) hk
  simp only [n0 46 (by decide), n1 42 (by decide), n1 43 (by decide), n1 61 (by decide)]
  by_cases c1 : 48 ≤ qsg P i ∧ qsg P i ≤ 53
  · rw [if_pos c1] at hs
    cases hs
    obtain ⟨r, τ, e1, e2⟩ := pc_sing' (v := 0) h ho (show qsg P i - 48 < 6 by omega)
    rw [if_neg (by omega), pp_piece (by omega), Option.bind_some, if_pos c1, if_neg (by simp [px_eq0]), pk_sub (by omega), e1]
    exact ⟨r, τ, rfl, e2⟩
  rw [if_neg c1] at hs
  by_cases c2 : qsg P i = 46
  · rw [if_pos c2] at hs
    cases hs
    obtain ⟨r, τ, e1, e2⟩ := pc_even (a := 0) (v := 0) h ho
    rw [if_pos c2, e1]
    exact ⟨r, τ, rfl, e2⟩
  rw [if_neg c2] at hs
  rw [if_neg c2, pp_piece (by omega), Option.bind_some, if_neg c1, if_pos nI_0]
  by_cases c3 : 65 ≤ qsg P i ∧ qsg P i ≤ 72
  · rw [if_neg (fun q => q c3)] at hs
    rw [pk_sub (show 65 ≤ qsg P i by omega)]
    by_cases c4 : qsg P (i + 1) = 42
    · rw [if_pos c4] at hs
      cases hs
      obtain ⟨r, τ, e1, e2⟩ := pc_hoarse (v := 0) h (show qsg P i - 65 < 8 by omega)
      rw [if_pos c4, e1]
      exact ⟨r, τ, rfl, e2⟩
    rw [if_neg c4] at hs
    rw [if_neg c4]
    by_cases c5 : qsg P (i + 1) = 120
    · rw [if_pos c5] at hs
      cases hs
      obtain ⟨r, τ, e1, e2⟩ := pc_let (v := 0) h ho (show qsg P i - 65 < 8 by omega)
      rw [if_neg (by omega), if_neg (by omega), e1]
      exact ⟨r, τ, rfl, e2⟩
    rw [if_neg c5] at hs
    by_cases c6 : qsg P (i + 1) = 43
    · rw [if_pos c6] at hs
      split at hs
      · next c8 =>
        cases hs
        obtain ⟨r, τ, e1, e2⟩ := pc_borrow h ho (show qsg P i - 65 < 8 by omega) (show 10 * (qsg P (i + 2) - 48) ≤ 2000 by omega)
        rw [if_pos c6, pk_sub (by omega), pk_mul, e1]
        exact ⟨r, τ, rfl, e2⟩
      · cases hs
    rw [if_neg c6] at hs
    rw [if_neg c6]
    by_cases c7 : qsg P (i + 1) = 61
    · rw [if_pos c7] at hs
      split at hs
      · next c8 =>
        cases hs
        obtain ⟨r, τ, e1, e2⟩ := pc_take h ho (show qsg P i - 65 < 8 by omega) (show qsg P (i + 2) - 65 < 8 by omega)
        rw [if_pos c7, pk_sub (show 65 ≤ qsg P (i + 2) by omega), e1]
        exact ⟨r, τ, rfl, e2⟩
      · cases hs
    rw [if_neg c7] at hs
    cases hs
  · rw [if_pos c3] at hs; cases hs
theorem pCS.other {σ τ : dc_HP} {s : pT} (h : pCS σ 15 s) (h0 : ∀ c j, 15 ≤ c → c ≤ 20 → τ.1 c j = σ.1 c j) : pCS τ 15 s := ⟨h.1.other (fun j _ => h0 15 j (by decide) (by decide)) (fun c j h1 h2 => h0 (15 + c) j (by omega) (by omega)), (h0 15 4 (by decide) (by decide)).trans h.2⟩
theorem qfst_at {g : Nat → Bool} {i : Nat} (hi : i < 8) (h : g i = true) (h0 : ∀ j, j < i → g j = false) : qfst g = i := by
  unfold qfst
  have hc : i = 0 ∨ i = 1 ∨ i = 2 ∨ i = 3 ∨ i = 4 ∨ i = 5 ∨ i = 6 ∨ i = 7 := by omega
  rcases hc with rfl | rfl | rfl | rfl | rfl | rfl | rfl | rfl
  all_goals simp [h, h0]
theorem pl_noted {x1 x : Int32} {n : Nat} {τ : dc_HP} (hn : 0 < n) (h : τ.1 14 5 ≠ (-6 : Int32)) : fn_X7_noteFreed_L2 x1 n x τ = some τ := by
  obtain ⟨m, rfl⟩ : ∃ m, n = m + 1 := ⟨n - 1, by omega⟩
  unfold fn_X7_noteFreed_L2
  rw [if_neg h]
  split <;> rfl
theorem pl_note {g : Nat → Bool} {k : Nat} (hk : k < 2 ^ 31) : ∀ f i n (τ : dc_HP), 8 ≤ i + f → i ≤ 8 → f < n → τ.1 14 1 = nI k → τ.1 14 5 = (-6 : Int32) → (∀ j, j < i → g j = false) → ∃ υ, fn_X7_noteFreed_L2 (nI (pm g 8)) n (nI i) τ = some υ ∧ (pm g 8 = 0 → υ = τ) ∧ (pm g 8 ≠ 0 → υ.1 14 5 = nI k ∧ υ.1 14 6 = nI (qfst g) ∧ (∀ c j, ¬ (c = 14 ∧ (j = 5 ∨ j = 6)) → υ.1 c j = τ.1 c j) ∧ υ.2 = τ.2) := by
  intro f
  induction f with
  | zero =>
    intro i n τ h8 hi hn h1 h5 h0
    obtain ⟨m, rfl⟩ : ∃ m, n = m + 1 := ⟨n - 1, by omega⟩
    have e : pm g 8 = 0 := (pm_congr (g := fun _ => false) (fun j hj => h0 j (by omega))).trans (by decide)
    unfold fn_X7_noteFreed_L2
    rw [if_pos (nI_le (by omega) (by omega))]
    exact ⟨τ, rfl, fun _ => rfl, fun q => absurd e q⟩
  | succ f ih =>
    intro i n τ h8 hi hn h1 h5 h0
    obtain ⟨m, rfl⟩ : ∃ m, n = m + 1 := ⟨n - 1, by omega⟩
    unfold fn_X7_noteFreed_L2
    by_cases c8 : 8 ≤ i
    · have e : pm g 8 = 0 := (pm_congr (g := fun _ => false) (fun j hj => h0 j (by omega))).trans (by decide)
      rw [if_pos (nI_le c8 (by omega))]
      exact ⟨τ, rfl, fun _ => rfl, fun q => absurd e q⟩
    rw [if_neg (show ¬ nI 8 ≤ nI i from nI_ge (by omega) (by decide)), if_pos h5, pc_bit (by omega), Option.bind_some]
    by_cases b : g i = true
    · have hne : pm g 8 ≠ 0 := by
        intro q
        have z := pm_bit g 8 i
        rw [q, b, Nat.zero_testBit] at z
        simp at z
        omega
      rw [if_pos b, if_pos rfl, h1]
      simp only [dc_let]
      rw [pl_noted (by omega) (by
        rw [show (dc_wI (dc_wI τ 14 5 (nI k)) 14 6 (nI i)).1 14 5 = nI k by simp [dc_wI]]
        exact px_m6 hk)]
      refine ⟨_, rfl, fun q => absurd q hne, fun _ => ⟨by simp [dc_wI], ?_, fun c j hc => ?_, rfl⟩⟩
      · rw [qfst_at (by omega) b h0]
        simp [dc_wI]
      · have n5 : ¬ (c = 14 ∧ j = 5) := fun q => hc ⟨q.1, Or.inl q.2⟩
        have n6 : ¬ (c = 14 ∧ j = 6) := fun q => hc ⟨q.1, Or.inr q.2⟩
        simp only [dc_wI, n5, n6, if_false]
    · rw [if_neg b, if_neg (show ¬ nI 0 = nI 1 by decide), nI_add]
      refine ih (i + 1) m τ (by omega) (by omega) (by omega) h1 h5 (fun j hj => ?_)
      by_cases cj : j = i
      · rw [cj]; exact Bool.eq_false_iff.mpr b
      · exact h0 j (by omega)
theorem pc_note {τ : dc_HP} {k : Nat} {V W : pV} {o : Option (Nat × Nat)} (hk : k < 2 ^ 31) (h1 : τ.1 14 1 = nI k) (h5 : τ.1 14 5 = qf1 o) (h6 : τ.1 14 6 = qf2 o) (ho : ∀ x, o = some x → x.1 < 2 ^ 31) : ∃ υ, fn_X7_noteFreed τ (nI (pm (qnew V W) 8)) = some υ ∧ υ.1 14 5 = qf1 (qfr k V W o) ∧ υ.1 14 6 = qf2 (qfr k V W o) ∧ (∀ c j, ¬ (c = 14 ∧ (j = 5 ∨ j = 6)) → υ.1 c j = τ.1 c j) ∧ υ.2 = τ.2 := by
  unfold fn_X7_noteFreed
  cases o with
  | some x =>
    have e : qfr k V W (some x) = some x := rfl
    rw [pl_noted (by decide) (by rw [h5]; exact px_m6 (ho x rfl)), Option.bind_some, e]
    exact ⟨τ, rfl, h5, h6, fun _ _ _ => rfl, rfl⟩
  | none =>
    obtain ⟨υ, e1, e2, e3⟩ := pl_note (g := qnew V W) hk 8 0 200 τ (by decide) (by decide) (by decide) h1 h5 (fun j hj => absurd hj (Nat.not_lt_zero j))
    rw [e1, Option.bind_some]
    by_cases c : pm (qnew V W) 8 = 0
    · have e : qfr k V W none = none := if_pos c
      rw [e, e2 c]
      exact ⟨τ, rfl, h5, h6, fun _ _ _ => rfl, rfl⟩
    · have e : qfr k V W none = some (k, qfst (qnew V W)) := if_neg c
      obtain ⟨a1, a2, a3, a4⟩ := e3 c
      rw [e]
      exact ⟨υ, rfl, a1, a2, a3, a4⟩
theorem qnew_mask (V W : pV) (h : pth W = pth V) : nI (pm (qfree W) 8) &&& (nI (pm (qfree V) 8) ^^^ (-1 : Int32)) = nI (pm (qnew V W) 8) := by
  rw [px_pdiff _ _ (by decide)]
  congr 1
  apply pm_congr
  intro k _
  unfold qfree qnew
  rw [h]
  cases pth V k with
  | false => rfl
  | true =>
    by_cases c : pde V k = 0
    · simp [c]
    · have : 0 < pde V k := by omega
      simp [c, this]
theorem pl_play {P : pPd} (hk : pPok P) (q2 : Nat) : ∀ f i n σ k r L, pP σ P → pTr σ r k → pOk r.1.1 → k ≤ i → (∀ x, r.2.2 = some x → x.1 < 2 ^ 31) → qpar P f i = .inr L → P.2 ≤ i + f → i < 70 → f < n → ∃ τ, pF 14 20 σ τ ∧ ((qrun L k r).2 = none → fn_X7_play_L19 q2 n (nI i) σ = some (.inr τ) ∧ pTr τ (qrun L k r).1.1 (qrun L k r).1.2 ∧ pOk (qrun L k r).1.1.1.1) ∧ (∀ w, (qrun L k r).2 = some w → fn_X7_play_L19 q2 n (nI i) σ = some (.inl ((-3 : Int32), τ)) ∧ τ.1 14 2 = nI (qrun L k r).1.2 ∧ τ.1 14 3 = nI w) := by
  intro f
  have h60 := hk.1
  induction f with
  | zero =>
    intro i n σ k r L h ht ho hki hfr hp h1 h2 hn
    obtain ⟨m, rfl⟩ : ∃ m, n = m + 1 := ⟨n - 1, by omega⟩
    cases hp
    unfold fn_X7_play_L19
    by_cases c60 : 60 ≤ k
    · rw [ht.2.1, if_pos (nI_le c60 (by omega))]
      exact ⟨σ, pF.rf, fun _ => ⟨rfl, ht, ho⟩, fun w q => by cases q⟩
    · rw [ht.2.1, if_neg (show ¬ nI 60 ≤ nI k from nI_ge (by omega) (by decide)), h.1, if_pos (nI_le (by omega) (by omega))]
      exact ⟨σ, pF.rf, fun _ => ⟨rfl, ht, ho⟩, fun w q => by cases q⟩
  | succ f ih =>
    intro i n σ k r L h ht ho hki hfr hp h1 h2 hn
    obtain ⟨m, rfl⟩ : ∃ m, n = m + 1 := ⟨n - 1, by omega⟩
    rw [qpar] at hp
    unfold fn_X7_play_L19
    rw [h.1, ht.2.1]
    by_cases c : P.2 ≤ i
    · rw [if_pos c] at hp
      cases hp
      by_cases c60 : 60 ≤ k
      · rw [if_pos (nI_le c60 (by omega))]
        exact ⟨σ, pF.rf, fun _ => ⟨rfl, ht, ho⟩, fun w q => by cases q⟩
      · rw [if_neg (show ¬ nI 60 ≤ nI k from nI_ge (by omega) (by decide)), if_pos (nI_le c (by omega))]
        exact ⟨σ, pF.rf, fun _ => ⟨rfl, ht, ho⟩, fun w q => by cases q⟩
    rw [if_neg c] at hp
    rw [if_neg (show ¬ nI 60 ≤ nI k from nI_ge (by omega) (by decide)), if_neg (show ¬ nI P.2 ≤ nI i from nI_ge (by omega) (by omega))]
    cases hs : qstep P i with
    | inl p => rw [hs] at hp; cases hp
    | inr x =>
      obtain ⟨a, l⟩ := x
      rw [hs] at hp
      dsimp only at hp
      cases hp2 : qpar P f (i + l) with
      | inl p => rw [hp2] at hp; cases hp
      | inr L' =>
        rw [hp2] at hp
        cases hp
        obtain ⟨l1, l2, l3⟩ := qstep_len hs
        obtain ⟨k1, k2, k3, k4, k5, k6⟩ := qstep_kind hs
        have b0 := qsg_le hk i
        have b1 := qsg_le hk (i + 1)
        obtain ⟨t1, t2, t3, t4, t5, t6, t7⟩ := ht
        obtain ⟨rr, τ, e1, e2, e3, e4, e5⟩ := pp_act hk t1 ho hs
        rw [pc_free t1.1 ho, Option.bind_some, nI_add, nI_add, pp_at h hk (by omega), pp_at h hk (by omega), pp_at h hk (by omega), Option.bind_some, Option.bind_some, Option.bind_some, e1, Option.bind_some]
        dsimp only
        have f1 : pF 14 20 σ τ := e5.mono (by omega) (by omega)
        have q14 : ∀ j, τ.1 14 j = σ.1 14 j := fun j => e5.at j (by omega)
        rw [e2, qrun]
        by_cases hw : qwhy r.1.1 a.1 a.2.1 a.2.2 = 0
        · rw [hw, if_pos nI_0, if_pos rfl]
          have g1 := e3 hw
          have ho' : pOk (qhap a.1 a.2.1 a.2.2 r.1).1 := qhap_ok ho hw k1 k4
          have e6 := qnew_mask r.1.1 (qhap a.1 a.2.1 a.2.2 r.1).1 qhap_th
          rw [pc_free g1.1 ho', Option.bind_some, e6]
          obtain ⟨υ, n1, n2, n3, n4, n5⟩ := pc_note (V := r.1.1) (W := (qhap a.1 a.2.1 a.2.2 r.1).1) (show k < 2 ^ 31 by omega) ((q14 1).trans t2) ((q14 5).trans t4) ((q14 6).trans t5) hfr
          have f2 : pF 14 20 σ υ := f1.tr ⟨fun c j q => n4 c j (fun z => by omega), n5⟩
          have hP2 : pP υ P := h.other (f2.at 0 (by omega)) (fun i _ => f2.at i (by omega))
          rw [n1, Option.bind_some, pp_at hP2 hk (by omega), Option.bind_some, pp_piece (by omega), Option.bind_some]
          have c14 : ∀ j, j ≠ 5 → j ≠ 6 → υ.1 14 j = σ.1 14 j := fun j j5 j6 => (n4 14 j (by omega)).trans (q14 j)
          -- the pieces
          have e7 : (if nI (if 48 ≤ qsg P i ∧ qsg P i ≤ 53 then 1 else 0) = 0 then some υ else dc_let (dc_wI υ 14 4 (υ.1 14 4 + nI 1)) (fun s117 => some s117)) = some (if a.1 = 0 then dc_wI υ 14 4 (nI (r.2.1 + 1)) else υ) := by
            by_cases z : 48 ≤ qsg P i ∧ qsg P i ≤ 53
            · rw [if_pos z, if_neg (by simp [px_eq0]), if_pos (k6.mpr z), c14 4 (by decide) (by decide), t3, nI_add]
              rfl
            · rw [if_neg z, if_pos nI_0, if_neg (fun y => z (k6.mp y))]
          rw [e7, Option.bind_some]
          simp only [dc_let]
          -- the heap behind the act
          have f3 : pF 14 20 σ (if a.1 = 0 then dc_wI υ 14 4 (nI (r.2.1 + 1)) else υ) := by
            split
            · exact f2.w (by omega) (by omega)
            · exact f2
          have d1 : ∀ c j, ¬ (c = 14 ∧ j = 4) → (if a.1 = 0 then dc_wI υ 14 4 (nI (r.2.1 + 1)) else υ).1 c j = υ.1 c j := by
            intro c j q
            split
            · simp only [dc_wI, q, if_false]
            · rfl
          have d2 : (if a.1 = 0 then dc_wI υ 14 4 (nI (r.2.1 + 1)) else υ).1 14 4 = nI (r.2.1 + if a.1 = 0 then 1 else 0) := by
            split
            · simp [dc_wI]
            · rw [c14 4 (by decide) (by decide), t3]; rfl
          generalize (if a.1 = 0 then dc_wI υ 14 4 (nI (r.2.1 + 1)) else υ) = φ at f3 d1 d2 ⊢
          have d3 : φ.1 14 1 = nI k := (d1 14 1 (by omega)).trans ((c14 1 (by decide) (by decide)).trans t2)
          rw [d3, nI_add]
          have f4 : pF 14 20 σ (dc_wI φ 14 1 (nI (k + 1))) := f3.w (by omega) (by omega)
          have hP4 : pP (dc_wI φ 14 1 (nI (k + 1))) P := h.other (f4.at 0 (by omega)) (fun i _ => f4.at i (by omega))
          rw [pp_at hP4 hk (by omega), pp_at hP4 hk (by omega), Option.bind_some, Option.bind_some, pp_len (by omega) (by omega), Option.bind_some, ← l3, nI_add]
          have w14 : ∀ j, j ≠ 1 → (dc_wI φ 14 1 (nI (k + 1))).1 14 j = φ.1 14 j := fun j hj => by simp [dc_wI, hj]
          have ht2 : pTr (dc_wI φ 14 1 (nI (k + 1))) (qone k a r) (k + 1) := by
            refine ⟨?_, by simp [dc_wI], (w14 4 (by decide)).trans d2, (w14 5 (by decide)).trans ((d1 14 5 (by omega)).trans n2), (w14 6 (by decide)).trans ((d1 14 6 (by omega)).trans n3), (w14 2 (by decide)).trans ((d1 14 2 (by omega)).trans ((c14 2 (by decide) (by decide)).trans t6)), (w14 3 (by decide)).trans ((d1 14 3 (by omega)).trans ((c14 3 (by decide) (by decide)).trans t7))⟩
            refine pCS.other g1 (fun c j c1 c2 => ?_)
            have : c ≠ 14 := by omega
            rw [show (dc_wI φ 14 1 (nI (k + 1))).1 c j = φ.1 c j by simp [dc_wI, this], d1 c j (by omega), n4 c j (by omega)]
          have hfr2 : ∀ x, (qone k a r).2.2 = some x → x.1 < 2 ^ 31 := by
            intro x hx
            have hx' : qfr k r.1.1 (qhap a.1 a.2.1 a.2.2 r.1).1 r.2.2 = some x := hx
            unfold qfr at hx'
            cases ho2 : r.2.2 with
            | some y => rw [ho2] at hx'; cases hx'; exact hfr _ ho2
            | none =>
              rw [ho2] at hx'
              dsimp only at hx'
              split at hx'
              · cases hx'
              · cases hx'; dsimp only; omega
          obtain ⟨ψ, g2, g3, g4⟩ := ih (i + l) m _ (k + 1) (qone k a r) L' hP4 ht2 ho' (by omega) hfr2 hp2 (by omega) (by omega) (by omega)
          exact ⟨ψ, f4.tr g2, g3, g4⟩
        · have hlt : qwhy r.1.1 a.1 a.2.1 a.2.2 < 2 ^ 31 := by
            unfold qwhy
            repeat' split
            all_goals omega
          rw [if_neg (fun q => hw ((px_eq0 hlt).mp q)), if_neg hw]
          have e8 := e4 hw
          rw [e8]
          simp only [dc_let]
          rw [t2]
          refine ⟨dc_wI (dc_wI σ 14 2 (nI k)) 14 3 (nI (qwhy r.1.1 a.1 a.2.1 a.2.2)), (pF.rf.w (by omega) (by omega)).w (by omega) (by omega), fun q => (by cases q), fun w q => ?_⟩
          cases q
          exact ⟨rfl, by simp [dc_wI], by simp [dc_wI]⟩

theorem pc_copy_15_1 {σ : dc_HP} {V : pV} (h : pC σ 1 V) : ∃ τ, fn_X0_copyFrom σ 15 1 = some τ ∧ pCS τ 15 (V, 0) ∧ pF 15 20 σ τ := by
  obtain ⟨h0, h1, h2, h3, h4, h5, h6, h7, h8⟩ := h
  unfold fn_X0_copyFrom
  simp only [dc_let]
  refine ⟨_, rfl, ⟨⟨?_, ?_, ?_, ?_, fun k hk => ?_, fun k hk => ?_, fun p hp v hv => ?_, fun p hp => ?_, fun p hp => ?_⟩, ?_⟩, ⟨fun c j hc => ?_, rfl⟩⟩
  · simpa [dc_wI, dc_cp] using h0
  · simpa [dc_wI, dc_cp] using h1
  · simpa [dc_wI, dc_cp] using h2
  · simpa [dc_wI, dc_cp] using h3
  · have := h4 k hk
    simpa [dc_wI, dc_cp, hk] using this
  · have := h5 k hk
    simpa [dc_wI, dc_cp, hk] using this
  · have := h6 p hp v hv
    have h24 : p * 4 + v < 24 := by omega
    simpa [dc_wI, dc_cp, h24] using this
  · have := h7 p hp
    simpa [dc_wI, dc_cp, hp] using this
  · have := h8 p hp
    simpa [dc_wI, dc_cp, hp] using this
  · simp [dc_wI, dc_cp]
  · have g0 : c ≠ 15 := by omega
    have g1 : c ≠ 16 := by omega
    have g2 : c ≠ 17 := by omega
    have g3 : c ≠ 18 := by omega
    have g4 : c ≠ 19 := by omega
    have g5 : c ≠ 20 := by omega
    simp [dc_wI, dc_cp, g0, g1, g2, g3, g4, g5]
theorem pc_copy_1_15 {σ : dc_HP} {V : pV} (h : pC σ 15 V) : ∃ τ, fn_X0_copyFrom σ 1 15 = some τ ∧ pCS τ 1 (V, 0) ∧ pF 1 6 σ τ := by
  obtain ⟨h0, h1, h2, h3, h4, h5, h6, h7, h8⟩ := h
  unfold fn_X0_copyFrom
  simp only [dc_let]
  refine ⟨_, rfl, ⟨⟨?_, ?_, ?_, ?_, fun k hk => ?_, fun k hk => ?_, fun p hp v hv => ?_, fun p hp => ?_, fun p hp => ?_⟩, ?_⟩, ⟨fun c j hc => ?_, rfl⟩⟩
  · simpa [dc_wI, dc_cp] using h0
  · simpa [dc_wI, dc_cp] using h1
  · simpa [dc_wI, dc_cp] using h2
  · simpa [dc_wI, dc_cp] using h3
  · have := h4 k hk
    simpa [dc_wI, dc_cp, hk] using this
  · have := h5 k hk
    simpa [dc_wI, dc_cp, hk] using this
  · have := h6 p hp v hv
    have h24 : p * 4 + v < 24 := by omega
    simpa [dc_wI, dc_cp, h24] using this
  · have := h7 p hp
    simpa [dc_wI, dc_cp, hp] using this
  · have := h8 p hp
    simpa [dc_wI, dc_cp, hp] using this
  · simp [dc_wI, dc_cp]
  · have g0 : c ≠ 1 := by omega
    have g1 : c ≠ 2 := by omega
    have g2 : c ≠ 3 := by omega
    have g3 : c ≠ 4 := by omega
    have g4 : c ≠ 5 := by omega
    have g5 : c ≠ 6 := by omega
    simp [dc_wI, dc_cp, g0, g1, g2, g3, g4, g5]
theorem pc_copy_32_1 {σ : dc_HP} {V : pV} (h : pC σ 1 V) : ∃ τ, fn_X0_copyFrom σ 32 1 = some τ ∧ pCS τ 32 (V, 0) ∧ pF 32 37 σ τ := by
  obtain ⟨h0, h1, h2, h3, h4, h5, h6, h7, h8⟩ := h
  unfold fn_X0_copyFrom
  simp only [dc_let]
  refine ⟨_, rfl, ⟨⟨?_, ?_, ?_, ?_, fun k hk => ?_, fun k hk => ?_, fun p hp v hv => ?_, fun p hp => ?_, fun p hp => ?_⟩, ?_⟩, ⟨fun c j hc => ?_, rfl⟩⟩
  · simpa [dc_wI, dc_cp] using h0
  · simpa [dc_wI, dc_cp] using h1
  · simpa [dc_wI, dc_cp] using h2
  · simpa [dc_wI, dc_cp] using h3
  · have := h4 k hk
    simpa [dc_wI, dc_cp, hk] using this
  · have := h5 k hk
    simpa [dc_wI, dc_cp, hk] using this
  · have := h6 p hp v hv
    have h24 : p * 4 + v < 24 := by omega
    simpa [dc_wI, dc_cp, h24] using this
  · have := h7 p hp
    simpa [dc_wI, dc_cp, hp] using this
  · have := h8 p hp
    simpa [dc_wI, dc_cp, hp] using this
  · simp [dc_wI, dc_cp]
  · have g0 : c ≠ 32 := by omega
    have g1 : c ≠ 33 := by omega
    have g2 : c ≠ 34 := by omega
    have g3 : c ≠ 35 := by omega
    have g4 : c ≠ 36 := by omega
    have g5 : c ≠ 37 := by omega
    simp [dc_wI, dc_cp, g0, g1, g2, g3, g4, g5]
theorem pc_copy_44_1 {σ : dc_HP} {V : pV} (h : pC σ 1 V) : ∃ τ, fn_X0_copyFrom σ 44 1 = some τ ∧ pCS τ 44 (V, 0) ∧ pF 44 49 σ τ := by
  obtain ⟨h0, h1, h2, h3, h4, h5, h6, h7, h8⟩ := h
  unfold fn_X0_copyFrom
  simp only [dc_let]
  refine ⟨_, rfl, ⟨⟨?_, ?_, ?_, ?_, fun k hk => ?_, fun k hk => ?_, fun p hp v hv => ?_, fun p hp => ?_, fun p hp => ?_⟩, ?_⟩, ⟨fun c j hc => ?_, rfl⟩⟩
  · simpa [dc_wI, dc_cp] using h0
  · simpa [dc_wI, dc_cp] using h1
  · simpa [dc_wI, dc_cp] using h2
  · simpa [dc_wI, dc_cp] using h3
  · have := h4 k hk
    simpa [dc_wI, dc_cp, hk] using this
  · have := h5 k hk
    simpa [dc_wI, dc_cp, hk] using this
  · have := h6 p hp v hv
    have h24 : p * 4 + v < 24 := by omega
    simpa [dc_wI, dc_cp, h24] using this
  · have := h7 p hp
    simpa [dc_wI, dc_cp, hp] using this
  · have := h8 p hp
    simpa [dc_wI, dc_cp, hp] using this
  · simp [dc_wI, dc_cp]
  · have g0 : c ≠ 44 := by omega
    have g1 : c ≠ 45 := by omega
    have g2 : c ≠ 46 := by omega
    have g3 : c ≠ 47 := by omega
    have g4 : c ≠ 48 := by omega
    have g5 : c ≠ 49 := by omega
    simp [dc_wI, dc_cp, g0, g1, g2, g3, g4, g5]
theorem pc_copy_1_32 {σ : dc_HP} {V : pV} (h : pC σ 32 V) : ∃ τ, fn_X0_copyFrom σ 1 32 = some τ ∧ pCS τ 1 (V, 0) ∧ pF 1 6 σ τ := by
  obtain ⟨h0, h1, h2, h3, h4, h5, h6, h7, h8⟩ := h
  unfold fn_X0_copyFrom
  simp only [dc_let]
  refine ⟨_, rfl, ⟨⟨?_, ?_, ?_, ?_, fun k hk => ?_, fun k hk => ?_, fun p hp v hv => ?_, fun p hp => ?_, fun p hp => ?_⟩, ?_⟩, ⟨fun c j hc => ?_, rfl⟩⟩
  · simpa [dc_wI, dc_cp] using h0
  · simpa [dc_wI, dc_cp] using h1
  · simpa [dc_wI, dc_cp] using h2
  · simpa [dc_wI, dc_cp] using h3
  · have := h4 k hk
    simpa [dc_wI, dc_cp, hk] using this
  · have := h5 k hk
    simpa [dc_wI, dc_cp, hk] using this
  · have := h6 p hp v hv
    have h24 : p * 4 + v < 24 := by omega
    simpa [dc_wI, dc_cp, h24] using this
  · have := h7 p hp
    simpa [dc_wI, dc_cp, hp] using this
  · have := h8 p hp
    simpa [dc_wI, dc_cp, hp] using this
  · simp [dc_wI, dc_cp]
  · have g0 : c ≠ 1 := by omega
    have g1 : c ≠ 2 := by omega
    have g2 : c ≠ 3 := by omega
    have g3 : c ≠ 4 := by omega
    have g4 : c ≠ 5 := by omega
    have g5 : c ≠ 6 := by omega
    simp [dc_wI, dc_cp, g0, g1, g2, g3, g4, g5]
theorem pc_copy_1_44 {σ : dc_HP} {V : pV} (h : pC σ 44 V) : ∃ τ, fn_X0_copyFrom σ 1 44 = some τ ∧ pCS τ 1 (V, 0) ∧ pF 1 6 σ τ := by
  obtain ⟨h0, h1, h2, h3, h4, h5, h6, h7, h8⟩ := h
  unfold fn_X0_copyFrom
  simp only [dc_let]
  refine ⟨_, rfl, ⟨⟨?_, ?_, ?_, ?_, fun k hk => ?_, fun k hk => ?_, fun p hp v hv => ?_, fun p hp => ?_, fun p hp => ?_⟩, ?_⟩, ⟨fun c j hc => ?_, rfl⟩⟩
  · simpa [dc_wI, dc_cp] using h0
  · simpa [dc_wI, dc_cp] using h1
  · simpa [dc_wI, dc_cp] using h2
  · simpa [dc_wI, dc_cp] using h3
  · have := h4 k hk
    simpa [dc_wI, dc_cp, hk] using this
  · have := h5 k hk
    simpa [dc_wI, dc_cp, hk] using this
  · have := h6 p hp v hv
    have h24 : p * 4 + v < 24 := by omega
    simpa [dc_wI, dc_cp, h24] using this
  · have := h7 p hp
    simpa [dc_wI, dc_cp, hp] using this
  · have := h8 p hp
    simpa [dc_wI, dc_cp, hp] using this
  · simp [dc_wI, dc_cp]
  · have g0 : c ≠ 1 := by omega
    have g1 : c ≠ 2 := by omega
    have g2 : c ≠ 3 := by omega
    have g3 : c ≠ 4 := by omega
    have g4 : c ≠ 5 := by omega
    have g5 : c ≠ 6 := by omega
    simp [dc_wI, dc_cp, g0, g1, g2, g3, g4, g5]
/-- a play of the whole pad, from the choir V -/
theorem pc_play {σ : dc_HP} {P : pPd} {V : pV} (h : pP σ P) (hk : pPok P) (hC : pC σ 1 V) (ho : pOk V) : ∃ τ, pF 14 20 σ τ ∧ (∀ p, qpar P 61 0 = .inl p → fn_X7_play σ 1 = some ((-5 : Int32), τ)) ∧ (∀ L, qpar P 61 0 = .inr L → ((qrun L 0 ((V, 0), 0, none)).2 = none → fn_X7_play σ 1 = some (nI 0, τ) ∧ pTr τ (qrun L 0 ((V, 0), 0, none)).1.1 (qrun L 0 ((V, 0), 0, none)).1.2 ∧ pOk (qrun L 0 ((V, 0), 0, none)).1.1.1.1) ∧ (∀ w, (qrun L 0 ((V, 0), 0, none)).2 = some w → fn_X7_play σ 1 = some ((-3 : Int32), τ) ∧ τ.1 14 2 = nI (qrun L 0 ((V, 0), 0, none)).1.2 ∧ τ.1 14 3 = nI w)) := by
  obtain ⟨α, a1, a2, a3⟩ := pc_copy_15_1 hC
  have h60 := hk.1
  unfold fn_X7_play fn_X7_start
  rw [a1, Option.bind_some]
  simp only [dc_let, Option.bind_some]
  generalize hβ : dc_wI (dc_wI (dc_wI (dc_wI (dc_wI (dc_wI α 14 1 (nI 0)) 14 2 (-6 : Int32)) 14 3 (-6 : Int32)) 14 4 (nI 0)) 14 5 (-6 : Int32)) 14 6 (-6 : Int32) = β
  have f1 : pF 14 20 σ β := by
    rw [← hβ]
    exact (((((((a3.mono (by omega) (by omega)).w (by omega) (by omega)).w (by omega) (by omega)).w (by omega) (by omega)).w (by omega) (by omega)).w (by omega) (by omega)).w (by omega) (by omega))
  have hP : pP β P := h.other (f1.at 0 (by omega)) (fun i _ => f1.at i (by omega))
  have ht : pTr β ((V, 0), 0, none) 0 := by
    rw [← hβ]
    refine ⟨pCS.other a2 (fun c j c1 c2 => ?_), by simp [dc_wI], by simp [dc_wI], by simp [dc_wI, qf1], by simp [dc_wI, qf2], by simp [dc_wI], by simp [dc_wI]⟩
    have : c ≠ 14 := by omega
    simp [dc_wI, this]
  rw [pp_fault hP hk, Option.bind_some]
  cases hq : qpar P 61 0 with
  | inl p =>
    have hp : p < 2 ^ 31 := by
      have : ∀ f i p, i < 70 → P.2 ≤ i + f → qpar P f i = .inl p → p < 80 := by
        intro f
        induction f with
        | zero => intro i p _ _ h; cases h
        | succ f ih =>
          intro i p hi hf h
          rw [qpar] at h
          split at h
          · cases h
          · split at h
            · next hs =>
              cases h
              unfold qstep at hs
              repeat' split at hs
              all_goals (first | (cases hs; done) | (cases hs; omega))
            · next a l hs =>
              obtain ⟨l1, l2, -⟩ := qstep_len hs
              split at h
              · next hh => cases h; exact ih (i + l) _ (by omega) (by omega) hh
              · cases h
      exact Nat.lt_trans (this 61 0 p (by omega) (by omega) hq) (by decide)
    refine ⟨β, f1, fun p' _ => ?_, fun L q => (by cases q)⟩
    dsimp only
    rw [if_neg (px_m6 hp)]
  | inr L =>
    obtain ⟨τ, g1, g2, g3⟩ := pl_play hk 1 61 0 200 β 0 ((V, 0), 0, none) L hP ht ho (Nat.le_refl 0) (fun x q => by cases q) hq (by omega) (by omega) (by decide)
    refine ⟨τ, f1.tr g1, fun p q => (by cases q), fun L' q => ?_⟩
    cases q
    refine ⟨fun q => ?_, fun w q => ?_⟩
    · obtain ⟨e1, e2, e3⟩ := g2 q
      dsimp only
      rw [if_pos rfl, e1]
      exact ⟨rfl, e2, e3⟩
    · obtain ⟨e1, e2, e3⟩ := g3 w q
      dsimp only
      rw [if_pos rfl, e1]
      exact ⟨rfl, e2, e3⟩
