/-! year -/
def qyk (x : Nat) : Nat := if x % 8 < 3 then 0 else if x % 8 = 3 then 5 else if x % 8 < 6 then 1 else if x % 8 = 6 then 2 else 3
def qya (x : Nat) : Nat := x / 8 % (if qyk x = 0 then 6 else 8)
def qyv (x : Nat) : Nat := if qyk x = 1 then 10 * (1 + x / 64 % 9) else x / 64 % 8
def qdr (x : Nat) (s : pT) : pT := if qwhy s.1 (qyk x) (qya x) (qyv x) = 0 then qhap (qyk x) (qya x) (qyv x) s else s
def qlc (x : Nat) : Nat := (75 * x + 74) % 65537
def qyr : Nat → Nat → pT → pT
  | 0, _, s => s
  | n + 1, x, s => qyr n (qlc x) (qdr (qlc x) s)
theorem qy_in (x : Nat) : qyk x < 6 ∧ qya x < 8 ∧ (qyk x = 0 → qya x < 6) ∧ (qyk x = 3 → qyv x < 8) ∧ qyv x ≤ 2000 := by
  have h6 : x / 8 % 6 < 6 := Nat.mod_lt _ (by decide)
  have h8 : x / 8 % 8 < 8 := Nat.mod_lt _ (by decide)
  have g8 : x / 64 % 8 < 8 := Nat.mod_lt _ (by decide)
  have g9 : x / 64 % 9 < 9 := Nat.mod_lt _ (by decide)
  refine ⟨by unfold qyk; repeat' split
             all_goals omega, ?_, fun h => ?_, fun h => ?_, ?_⟩
  · unfold qya; split <;> omega
  · unfold qya; rw [if_pos h]; exact h6
  · unfold qyv; rw [if_neg (by omega)]; exact g8
  · unfold qyv; split <;> omega
theorem qdr_ok {x : Nat} {s : pT} (ho : pOk s.1) : pOk (qdr x s).1 := by
  obtain ⟨h1, h2, h3, h4, h5⟩ := qy_in x
  unfold qdr
  split
  · rename_i c
    exact qhap_ok ho c h1 h4
  · exact ho
theorem qyr_ok : ∀ n x s, pOk s.1 → pOk (qyr n x s).1 := by
  intro n
  induction n with
  | zero => intro x s h; exact h
  | succ n ih => intro x s h; exact ih _ _ (qdr_ok h)
theorem qdr_th {x : Nat} {s : pT} : pth (qdr x s).1 = pth s.1 := by
  unfold qdr
  split
  · exact qhap_th
  · rfl
theorem qyr_th : ∀ n x s, pth (qyr n x s).1 = pth s.1 := by
  intro n
  induction n with
  | zero => intro x s; rfl
  | succ n ih => intro x s; rw [qyr, ih, qdr_th]
theorem pDo.dr {σ τ : dc_HP} {x : Nat} {s : pT} {r : Int32} {k a v : Nat} (h : pCS σ 15 s) (g : pDo σ 15 k a v s r τ) (ek : qyk x = k) (ea : qya x = a) (ev : qyv x = v) : pCS τ 15 (qdr x s) ∧ pF 15 20 σ τ := by
  subst ek ea ev
  obtain ⟨g1, g2, g3, g4⟩ := g
  refine ⟨?_, g4⟩
  unfold qdr
  by_cases c : qwhy s.1 (qyk x) (qya x) (qyv x) = 0
  · rw [if_pos c]; exact g2 c
  · rw [if_neg c, g3 c]; exact h
theorem pc_draw {σ : dc_HP} {s : pT} (h : pCS σ 15 s) (ho : pOk s.1) {x : Nat} (hx : x < 65537) : ∃ τ, fn_X7_draw σ (nI x) = some τ ∧ pCS τ 15 (qdr x s) ∧ pF 15 20 σ τ := by
  have h8 : x % 8 < 8 := Nat.mod_lt _ (by decide)
  have h6 : x / 8 % 6 < 6 := Nat.mod_lt _ (by decide)
  have h88 : x / 8 % 8 < 8 := Nat.mod_lt _ (by decide)
  have g8 : x / 64 % 8 < 8 := Nat.mod_lt _ (by decide)
  have g9 : x / 64 % 9 < 9 := Nat.mod_lt _ (by decide)
  have r8 : nI x - nI x / nI 8 * nI 8 = nI (x % 8) := pk_rem (by omega) (by decide) (by decide)
  have d8 : nI x / nI 8 = nI (x / 8) := pk_div (by omega) (by decide) (by decide)
  have d64 : nI x / nI 64 = nI (x / 64) := pk_div (by omega) (by decide) (by decide)
  have r86 : nI (x / 8) - nI (x / 8) / nI 6 * nI 6 = nI (x / 8 % 6) := pk_rem (by omega) (by decide) (by decide)
  have r88 : nI (x / 8) - nI (x / 8) / nI 8 * nI 8 = nI (x / 8 % 8) := pk_rem (by omega) (by decide) (by decide)
  have r648 : nI (x / 64) - nI (x / 64) / nI 8 * nI 8 = nI (x / 64 % 8) := pk_rem (by omega) (by decide) (by decide)
  have r649 : nI (x / 64) - nI (x / 64) / nI 9 * nI 9 = nI (x / 64 % 9) := pk_rem (by omega) (by decide) (by decide)
  unfold fn_X7_draw
  rw [r8, d8, d64, r86, r88, r648, r649, nI_add, pk_mul]
  have ne : ∀ k, k < 8 → x % 8 ≠ k → ¬ nI (x % 8) = nI k := fun k hk q z => q ((nI_eq (by omega) (by omega)).mp z)
  have sing : qyk x = 0 → ∃ τ, (fn_X0_sing σ 15 (nI (x / 8 % 6))).bind (fun r64 => some r64.2) = some τ ∧ pCS τ 15 (qdr x s) ∧ pF 15 20 σ τ := by
    intro k0
    obtain ⟨r, τ, e, g⟩ := pc_sing' (v := qyv x) h ho h6
    have := g.dr h k0 (by unfold qya; rw [if_pos k0]) rfl
    exact ⟨τ, by rw [e, Option.bind_some], this⟩
  have borr : qyk x = 1 → ∃ τ, (fn_X0_borrow σ 15 (nI (x / 8 % 8)) (nI (10 * (1 + x / 64 % 9)))).bind (fun r99 => some r99.2) = some τ ∧ pCS τ 15 (qdr x s) ∧ pF 15 20 σ τ := by
    intro k0
    obtain ⟨r, τ, e, g⟩ := pc_borrow h ho h88 (show 10 * (1 + x / 64 % 9) ≤ 2000 by omega)
    have := g.dr h k0 (by unfold qya; rw [if_neg (by omega)]) (by unfold qyv; rw [if_pos k0])
    exact ⟨τ, by rw [e, Option.bind_some], this⟩
  by_cases c0 : x % 8 = 0
  · rw [if_pos (by rw [c0])]; exact sing (by unfold qyk; rw [if_pos (by omega)])
  rw [if_neg (ne 0 (by decide) c0)]
  by_cases c1 : x % 8 = 1
  · rw [if_pos (by rw [c1])]; exact sing (by unfold qyk; rw [if_pos (by omega)])
  rw [if_neg (ne 1 (by decide) c1)]
  by_cases c2 : x % 8 = 2
  · rw [if_pos (by rw [c2])]; exact sing (by unfold qyk; rw [if_pos (by omega)])
  rw [if_neg (ne 2 (by decide) c2)]
  by_cases c3 : x % 8 = 3
  · rw [if_pos (by rw [c3])]
    have k0 : qyk x = 5 := by unfold qyk; rw [if_neg (by omega), if_pos c3]
    obtain ⟨r, τ, e, g⟩ := pc_even (a := qya x) (v := qyv x) h ho
    have := g.dr h k0 rfl rfl
    exact ⟨τ, by rw [e, Option.bind_some], this⟩
  rw [if_neg (ne 3 (by decide) c3)]
  by_cases c4 : x % 8 = 4
  · rw [if_pos (by rw [c4])]; exact borr (by unfold qyk; rw [if_neg (by omega), if_neg c3, if_pos (by omega)])
  rw [if_neg (ne 4 (by decide) c4)]
  by_cases c5 : x % 8 = 5
  · rw [if_pos (by rw [c5])]; exact borr (by unfold qyk; rw [if_neg (by omega), if_neg c3, if_pos (by omega)])
  rw [if_neg (ne 5 (by decide) c5)]
  by_cases c6 : x % 8 = 6
  · rw [if_pos (by rw [c6])]
    have k0 : qyk x = 2 := by unfold qyk; rw [if_neg (by omega), if_neg c3, if_neg (by omega), if_pos c6]
    obtain ⟨r, τ, e, g⟩ := pc_hoarse (v := qyv x) h h88
    have := g.dr h k0 (by unfold qya; rw [if_neg (by omega)]) rfl
    exact ⟨τ, by rw [e, Option.bind_some], this⟩
  rw [if_neg (ne 6 (by decide) c6)]
  have k0 : qyk x = 3 := by unfold qyk; rw [if_neg (by omega), if_neg c3, if_neg (by omega), if_neg c6]
  obtain ⟨r, τ, e, g⟩ := pc_take h ho h88 g8
  have := g.dr h k0 (by unfold qya; rw [if_neg (by omega)]) (by unfold qyv; rw [if_neg (by omega)])
  exact ⟨τ, by rw [e, Option.bind_some], this⟩
theorem qlc_lt (x : Nat) : qlc x < 65537 := Nat.mod_lt _ (by decide)
theorem pl_year {mm : Nat} (hmm : mm ≤ 99) (y : Int32) : ∀ d i n x σ s, i + d = mm → d < n → x < 65537 → pCS σ 15 s → pOk s.1 → ∃ τ, fn_X8_year_L50 (nI mm) y n (nI x) (nI i) σ = some τ ∧ pCS τ 15 (qyr d x s) ∧ pF 15 20 σ τ := by
  intro d
  induction d with
  | zero =>
    intro i n x σ s hi hn hx h ho
    obtain ⟨n, rfl⟩ : ∃ q, n = q + 1 := ⟨n - 1, by omega⟩
    obtain rfl : i = mm := by omega
    rw [fn_X8_year_L50, if_pos (nI_le (Nat.le_refl _) (by omega))]
    exact ⟨σ, rfl, h, pF.rf⟩
  | succ d ih =>
    intro i n x σ s hi hn hx h ho
    obtain ⟨n, rfl⟩ : ∃ q, n = q + 1 := ⟨n - 1, by omega⟩
    have e : (nI 75 * nI x + nI 74) - (nI 75 * nI x + nI 74) / (65537 : Int32) * (65537 : Int32) = nI (qlc x) := by
      rw [pk_mul, nI_add]
      exact pk_rem (a := 75 * x + 74) (d := 65537) (by omega) (by decide) (by decide)
    have l := qlc_lt x
    obtain ⟨α, a1, a2, a3⟩ := pc_draw h ho l
    obtain ⟨τ, t1, t2, t3⟩ := ih (i + 1) n (qlc x) α _ (by omega) (by omega) l a2 (qdr_ok ho)
    rw [fn_X8_year_L50, if_neg (nI_ge (by omega) (by omega)), e, a1, Option.bind_some, nI_add]
    exact ⟨τ, t1, t2, a3.tr t3⟩
theorem ql_of {n : Nat} (h : n < 2 ^ 31) : (nI n).toInt64 = qL n := by
  apply Int64.toInt_inj.mp
  rw [Int32.toInt_toInt64, nI_toInt h, ql_ti (by omega)]
theorem ql_to {n : Nat} (h : n < 2 ^ 31) : (qL n).toInt32 = nI n := by
  rw [← ql_of h, lg_l2i_i2l]
theorem px_lc {x : Nat} (hx : x < 65537) : (((75 : Int64) * (nI x).toInt64 + (74 : Int64)) - ((75 : Int64) * (nI x).toInt64 + (74 : Int64)) / (65537 : Int64) * (65537 : Int64)).toInt32 = nI (qlc x) := by
  have l := qlc_lt x
  have e : (75 : Int64) * (nI x).toInt64 + (74 : Int64) = qL (75 * x + 74) := by
    rw [ql_of (by omega)]
    have a : (75 : Int64) * qL x = qL (75 * x) := (Int64.ofNat_mul 75 x).symm
    rw [a]
    exact (Int64.ofNat_add (75 * x) 74).symm
  rw [e, show (65537 : Int64) = qL 65537 from rfl, ql_rem (by omega) (by decide) (by decide)]
  exact ql_to (show (75 * x + 74) % 65537 < 2 ^ 31 by unfold qlc at l; omega)
theorem px_actBy {x : Nat} : fn_X9_actBy (nI (x % 8)) = some (nI (qyk x)) := by
  have h8 : x % 8 < 8 := Nat.mod_lt _ (by decide)
  unfold qyk
  generalize x % 8 = y at h8 ⊢
  have : ∀ y, y < 8 → fn_X9_actBy (nI y) = some (nI (if y < 3 then 0 else if y = 3 then 5 else if y < 6 then 1 else if y = 6 then 2 else 3)) := by decide
  exact this y h8
theorem pl_myear {mm : Nat} (hmm : mm ≤ 99) (y : Int32) : ∀ d i n x σ s c, i + d = mm → d < n → x < 65537 → pMS σ s → σ.1 55 19 = nI c → pOk s.1 → ∃ τ, fn_X9_year_L59 (nI mm) y n (nI x) (nI i) σ = some τ ∧ pMS τ (qyr d x s) ∧ pFm [1, 2, 3, 18, 19] σ τ := by
  intro d
  induction d with
  | zero =>
    intro i n x σ s c hi hn hx h hc ho
    obtain ⟨n, rfl⟩ : ∃ q, n = q + 1 := ⟨n - 1, by omega⟩
    obtain rfl : i = mm := by omega
    rw [fn_X9_year_L59, if_pos (nI_le (Nat.le_refl _) (by omega))]
    exact ⟨σ, rfl, h, pFm.rf⟩
  | succ d ih =>
    intro i n x σ s c hi hn hx h hc ho
    obtain ⟨n, rfl⟩ : ∃ q, n = q + 1 := ⟨n - 1, by omega⟩
    have l := qlc_lt x
    rw [fn_X9_year_L59, if_neg (nI_ge (by omega) (by omega)), px_lc hx, nI_add, qyr]
    generalize qlc x = z at l ⊢
    have h8 : z % 8 < 8 := Nat.mod_lt _ (by decide)
    have g9 : z / 64 % 9 < 9 := Nat.mod_lt _ (by decide)
    have r8 : nI z - nI z / nI 8 * nI 8 = nI (z % 8) := pk_rem (by omega) (by decide) (by decide)
    have d8 : nI z / nI 8 = nI (z / 8) := pk_div (by omega) (by decide) (by decide)
    have d64 : nI z / nI 64 = nI (z / 64) := pk_div (by omega) (by decide) (by decide)
    have r648 : nI (z / 64) - nI (z / 64) / nI 8 * nI 8 = nI (z / 64 % 8) := pk_rem (by omega) (by decide) (by decide)
    have r649 : nI (z / 64) - nI (z / 64) / nI 9 * nI 9 = nI (z / 64 % 9) := pk_rem (by omega) (by decide) (by decide)
    obtain ⟨k1, k2, k3, k4, k5⟩ := qy_in z
    have eq : (if nI (qyk z) = 0 then some (nI 6) else some (nI 8)) = some (nI (if qyk z = 0 then 6 else 8)) := by
      by_cases q : qyk z = 0
      · rw [if_pos ((px_eq0 (by omega)).mpr q), if_pos q]
      · rw [if_neg (fun y => q ((px_eq0 (by omega)).mp y)), if_neg q]
    have nz : ¬ nI (if qyk z = 0 then 6 else 8) = 0 := by split <;> decide
    have ea : nI (z / 8) - nI (z / 8) / nI (if qyk z = 0 then 6 else 8) * nI (if qyk z = 0 then 6 else 8) = nI (qya z) := by
      unfold qya
      split <;> exact pk_rem (by omega) (by decide) (by decide)
    have ev : (if nI (qyk z) = nI 1 then some (nI 10 * (nI 1 + nI (z / 64 % 9))) else some (nI (z / 64 % 8))) = some (nI (qyv z)) := by
      unfold qyv
      by_cases q : qyk z = 1
      · rw [if_pos (by rw [q]), if_pos q, nI_add, pk_mul]
      · rw [if_neg (fun y => q ((nI_eq (by omega) (by omega)).mp y)), if_neg q]
    rw [r8, px_actBy, Option.bind_some, eq, Option.bind_some, if_neg nz, d8, d64, ea, r648, r649, ev, Option.bind_some, pm_why h.1 ho k1 k2 k3 k4 k5, Option.bind_some]
    have w5 := qwhy_le s.1 (qyk z) (qya z) (qyv z)
    by_cases w : qwhy s.1 (qyk z) (qya z) (qyv z) = 0
    · obtain ⟨α, a1, a2, a3, a4⟩ := pm_hap h ho k1 k2 k3 k4 k5 hc w
      have e : qdr z s = qhap (qyk z) (qya z) (qyv z) s := if_pos w
      rw [if_pos ((px_eq0 (by omega)).mpr w), a1, Option.bind_some, e]
      obtain ⟨τ, t1, t2, t3⟩ := ih (i + 1) n z α _ _ (by omega) (by omega) l a2 a4 (qhap_ok ho w k1 k4)
      exact ⟨τ, t1, t2, a3.tr t3⟩
    · have e : qdr z s = s := if_neg w
      rw [if_neg (fun y => w ((px_eq0 (by omega)).mp y)), e]
      exact ih (i + 1) n z σ s c (by omega) (by omega) l h hc ho
theorem pc_start {σ : dc_HP} {V : pV} (h : pC σ 1 V) : ∃ τ, fn_X7_start σ 1 = some τ ∧ pCS τ 15 (V, 0) ∧ pF 14 20 σ τ := by
  obtain ⟨α, a1, a2, a3⟩ := pc_copy_15_1 h
  unfold fn_X7_start
  rw [a1, Option.bind_some]
  simp only [dc_let]
  refine ⟨_, rfl, a2.other (fun c j h1 h2 => ?_), ?_⟩
  · rw [px_wn (by omega), px_wn (by omega), px_wn (by omega), px_wn (by omega), px_wn (by omega), px_wn (by omega)]
  · exact ((((((a3.mono (by decide) (by decide)).w (by decide) (by decide)).w (by decide) (by decide)).w (by decide) (by decide)).w (by decide) (by decide)).w (by decide) (by decide)).w (by decide) (by decide)
theorem pFm.a {σ τ : dc_HP} (h : pFm [1, 2, 3, 18, 19] σ τ) : pW Wa σ τ := ⟨fun c j q => h.1 c j (fun z => q (by
  unfold Wa
  rcases z with z | ⟨z1, z2⟩
  · exact Or.inl z
  · simp at z2
    omega)), h.2⟩
theorem pl_yfree {V W : pV} (h : pth W = pth V) : nI (pm (pth V) 8) &&& (nI (pm (qowe W) 8) ^^^ (-1 : Int32)) = nI (pm (qfree W) 8) := by
  rw [px_pdiff _ _ (by decide), pm_congr (g := qfree W)]
  intro k hk
  unfold qowe qfree
  rw [h]
  cases pth V k with
  | false => rfl
  | true =>
    by_cases c : pde W k = 0
    · simp [c]
    · simp [c]; omega
theorem op_year (x y z : Int32) : pOp (fun σ => fn_X8_year σ x y z) (fun σ => fn_X9_year σ x y z) := by
  intro σ hR
  obtain ⟨G, ho, hc, hm⟩ := id hR
  have n1 : ¬ nI 1 = 0 := by decide
  have z0 : nI 0 = 0 := nI_0
  by_cases hx : pr x 0 9999
  · have e1 := (px_within (x := x) (lo := 0) (hi := 9999) (by decide) (by decide)).1 hx
    have f1 := (px_in (x := x) (lo := 0) (hi := 9999) (L := 0) (H := 9999) (by decide) (by decide)).1 hx
    by_cases hy : pr y 1 99
    · have e2 := (px_within (x := y) (lo := 1) (hi := 99) (by decide) (by decide)).1 hy
      have f2 := (px_in (x := y) (lo := 1) (hi := 99) (L := 1) (H := 99) (by decide) (by decide)).1 hy
      by_cases hz : pr z 0 2
      · have e3 := (px_within (x := z) (lo := 0) (hi := 2) (by decide) (by decide)).1 hz
        have f3 := (px_in (x := z) (lo := 0) (hi := 2) (L := 0) (H := 2) (by decide) (by decide)).1 hz
        obtain ⟨sd, hsd, rfl⟩ := pr_of (by decide) hx
        obtain ⟨mm, hmm, rfl⟩ := px_of (a := 99) (by decide) (by have := hy.1; omega) hy.2
        obtain ⟨α, a1, a2, a3⟩ := pc_start hc.1
        obtain ⟨β, b1, b2, b3⟩ := pl_year hmm z mm 0 200 sd α (G.1, 0) (by omega) (by omega) (by omega) a2 ho.1
        have fβ : pF 14 20 σ β := a3.tr (b3.mono (by decide) (by decide))
        have hcβ := hc.scr fβ (by decide) (by decide)
        have hmβ := hm.c ho fβ (by decide)
        have ok := qyr_ok mm sd (G.1, 0) ho.1
        have th := qyr_th mm sd (G.1, 0)
        generalize hS : qyr mm sd (G.1, 0) = S at b2 ok th
        obtain ⟨γ, c1, c2, c3, c4, c5, c6⟩ := pm_keep β
        generalize hδ : dc_wI (dc_wI γ 55 18 (nI 0)) 55 19 (nI 0) = δ
        have hδ1 : ∀ c j, ¬ (c = 55 ∧ (j = 18 ∨ j = 19)) → δ.1 c j = γ.1 c j := fun c j q => by rw [← hδ, px_wn (by omega), px_wn (by omega)]
        have wδ : pW Wa β δ := by
          rw [← hδ]
          exact ((c2.mono (fun c j w => by unfold W67 at w; unfold Wa; omega)).w (by unfold Wa; omega)).w (by unfold Wa; omega)
        have mδ : pMS δ (G.1, 0) := by
          refine ⟨hmβ.1.other (fun j hj => ?_) (fun c j h1 h2 => ?_), ?_⟩
          · rw [hδ1 55 j (by omega), c2.1 55 j (by unfold W67; decide)]
          · rw [hδ1 c j (by omega), c2.1 c j (by unfold W67; omega)]
          · rw [← hδ, px_wn (by decide), px_ws]
        obtain ⟨ε, d1, d2, d3⟩ := pl_myear hmm z mm 0 200 sd δ (G.1, 0) 0 (by omega) (by omega) (by omega) mδ (by rw [← hδ, px_ws]) ho.1
        rw [hS] at d2
        have sv : pSv β ε := by
          refine ⟨wδ.tr d3.a, fun k hk => ?_, ?_, ?_, ?_⟩
          · rw [d3.1 67 k (by simp), hδ1 67 k (fun q => absurd q.1 (by decide)), c3 k hk]
          · rw [d3.1 67 8 (by simp), hδ1 67 8 (by decide), c4]
          · rw [d3.1 67 9 (by simp), hδ1 67 9 (by decide), c5]
          · rw [d3.1 67 10 (by simp), hδ1 67 10 (by decide), c6]
        have e55 : ε.1 55 0 = nI (pm (pth G.1) 8) := by
          obtain ⟨_, _, h0, -⟩ := d2.1
          rw [h0, th]
        obtain ⟨υ, u1, u2, u3⟩ := pb_back ho hcβ hmβ sv (if z = 0 then nI (qsum (pde S.1) 8) else if z = nI 1 then nI (pc (qfree S.1) 8) else nI S.2)
        refine ⟨if z = 0 then nI (qsum (pde S.1) 8) else if z = nI 1 then nI (pc (qfree S.1) 8) else nI S.2, β, υ, ?_, ?_, u2⟩
        · simp only [fn_X8_year, e1, e2, e3, Option.bind_some, n1, if_false, a1, b1, pc_all b2.1 ok, pc_free b2.1 ok, (px_cnt _).1, b2.2]
          split
          · rfl
          · split <;> rfl
        · have ans : (if z = 0 then (fn_X9_allDebts ε).bind (fun r179 => some r179) else (if z = (nI 1) then (fn_X9_owing ε).bind (fun r195 => (fn_X9_bitsOf ((ε.1 55 0) &&& (r195 ^^^ ((-1 : Int32))))).bind (fun r201 => some r201)) else some (ε.1 55 18))) = some (if z = 0 then nI (qsum (pde S.1) 8) else if z = nI 1 then nI (pc (qfree S.1) 8) else nI S.2) := by
            rw [pm_allD d2.1 ok, pm_owing d2.1 ok, Option.bind_some, Option.bind_some, e55, pl_yfree th, (px_cnt _).2, Option.bind_some, d2.2]
            split
            · rfl
            · split <;> rfl
          simp only [fn_X9_year, f1, f2, f3, Option.bind_some, n1, if_false, c1, dc_let, hδ, d1, ans, u1]
      · refine ⟨(-2 : Int32), σ, σ, ?_, ?_, hR⟩
        · simp only [fn_X8_year, e1, e2, (px_within (x := z) (lo := 0) (hi := 2) (by decide) (by decide)).2 hz, Option.bind_some, n1, if_false]
          rw [if_pos nI_0]
        · simp only [fn_X9_year, f1, f2, (px_in (x := z) (lo := 0) (hi := 2) (L := 0) (H := 2) (by decide) (by decide)).2 hz, Option.bind_some, n1, if_false]
          rw [if_pos nI_0]
    · refine ⟨(-2 : Int32), σ, σ, ?_, ?_, hR⟩
      · simp only [fn_X8_year, e1, (px_within (x := y) (lo := 1) (hi := 99) (by decide) (by decide)).2 hy, Option.bind_some, n1, if_false]
        rw [if_pos nI_0]
      · simp only [fn_X9_year, f1, (px_in (x := y) (lo := 1) (hi := 99) (L := 1) (H := 99) (by decide) (by decide)).2 hy, Option.bind_some, n1, if_false]
        rw [if_pos nI_0]
  · refine ⟨(-2 : Int32), σ, σ, ?_, ?_, hR⟩
    · simp only [fn_X8_year, (px_within (x := x) (lo := 0) (hi := 9999) (by decide) (by decide)).2 hx, Option.bind_some]
      rw [if_pos nI_0]
    · simp only [fn_X9_year, (px_in (x := x) (lo := 0) (hi := 9999) (L := 0) (H := 9999) (by decide) (by decide)).2 hx, Option.bind_some]
      rw [if_pos nI_0]
