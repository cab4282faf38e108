/-! singer, leave, may, told -/
def pRd (f g : dc_HP → Option Int32) : Prop := ∀ σ, pRL σ → ∃ r, f σ = some r ∧ g σ = some r
theorem pCL.choir {σ τ : dc_HP} {G : pG} (h : pCL σ G) (V : pV) (h0 : ∀ c j, Uc c j → ¬ (1 ≤ c ∧ c ≤ 6) → τ.1 c j = σ.1 c j) (hp : pC τ 1 V) : pCL τ (V, G.2) :=
  ⟨hp,
   h.2.1.other (h0 12 0 (by unfold Uc; omega) (by omega)) (fun i _ => h0 13 i (by unfold Uc; omega) (by omega)),
   h.2.2.1.other (h0 7 0 (by unfold Uc; omega) (by omega)) (fun c i h1 h2 => h0 (7 + c) i (by unfold Uc; omega) (by omega)),
   h.2.2.2.1.other (fun c j h1 h2 => h0 c j (by unfold Uc; omega) (by omega)),
   h.2.2.2.2.other (fun c j h1 h2 => h0 c j (by unfold Uc; omega) (by omega))⟩
theorem pML.choir {σ τ : dc_HP} {G : pG} (ho : pGok G) (h : pML σ G) (V : pV) (h0 : ∀ c j, Um c j → ¬ ((56 ≤ c ∧ c ≤ 60) ∨ (c = 55 ∧ j < 4)) → τ.1 c j = σ.1 c j) (hp : pM τ V) : pML τ (V, G.2) :=
  ⟨hp,
   h.2.1.other (h0 55 13 (by unfold Um; omega) (by omega)) (fun i _ => h0 63 i (by unfold Um; omega) (by omega)),
   h.2.2.1.other (h0 55 11 (by unfold Um; omega) (by omega)) (fun c i h1 h2 => h0 c i (by unfold Um; omega) (by omega)),
   h.2.2.2.1.other ho.2.2.2.1 (h0 76 0 (by unfold Um; omega) (by omega)) (fun j _ _ => h0 75 j (by unfold Um; omega) (by omega)),
   h.2.2.2.2.other ho.2.2.2.2 (h0 76 1 (by unfold Um; omega) (by omega)) (fun j _ _ => h0 75 j (by unfold Um; omega) (by omega))⟩
def qadd (k : Nat) (f : Nat → Bool) : Nat → Bool := fun j => decide (j = k) || f j
def qdel (k : Nat) (f : Nat → Bool) : Nat → Bool := fun j => !decide (j = k) && f j
def qcome (V : pV) (k v d : Nat) : pV := (qadd k (pth V), qdel k (pho V), qdel k (psa V), pev V, pu (pvo V) k v, pu (pde V) k d, pnd V, pba V, ppy V)
def qgo (V : pV) (k : Nat) : pV := (qdel k (pth V), qdel k (pho V), qdel k (psa V), pev V, pu (pvo V) k 0, pu (pde V) k 0, pnd V, pba V, ppy V)
theorem qcome_ok {V : pV} (ho : pOk V) {k v d : Nat} (hv : v < 4) (hd : d ≤ 999) : pOk (qcome V k v d) := by
  obtain ⟨h0, h1, h2, h3, h4, h5, h6⟩ := ho
  refine ⟨h0, fun j hj => ?_, fun j hj => ?_, h3, h4, h5, fun j hj ht => ?_⟩
  · show pu (pvo V) k v j < 4
    unfold pu; split
    · exact hv
    · exact h1 j hj
  · show pu (pde V) k d j ≤ 999
    unfold pu; split
    · exact hd
    · exact h2 j hj
  · have ht' : (decide (j = k) || pth V j) = false := ht
    rw [Bool.or_eq_false_iff, decide_eq_false_iff_not] at ht'
    obtain ⟨g1, g2, g3⟩ := h6 j hj ht'.2
    refine ⟨?_, ?_, ?_⟩
    · show qdel k (pho V) j = false; simp [qdel, g1]
    · show qdel k (psa V) j = false; simp [qdel, g2]
    · show pu (pde V) k d j = 0; rw [pu_n _ _ ht'.1]; exact g3
theorem qgo_ok {V : pV} (ho : pOk V) {k : Nat} : pOk (qgo V k) := by
  obtain ⟨h0, h1, h2, h3, h4, h5, h6⟩ := ho
  refine ⟨h0, fun j hj => ?_, fun j hj => ?_, h3, h4, h5, fun j hj ht => ?_⟩
  · show pu (pvo V) k 0 j < 4
    unfold pu; split
    · decide
    · exact h1 j hj
  · show pu (pde V) k 0 j ≤ 999
    unfold pu; split
    · decide
    · exact h2 j hj
  · have ht' : (!decide (j = k) && pth V j) = false := ht
    by_cases e : j = k
    · refine ⟨?_, ?_, ?_⟩
      · show qdel k (pho V) j = false; simp [qdel, e]
      · show qdel k (psa V) j = false; simp [qdel, e]
      · show pu (pde V) k 0 j = 0; rw [e, pu_s]
    · have : pth V j = false := by simpa [e] using ht'
      obtain ⟨g1, g2, g3⟩ := h6 j hj this
      refine ⟨?_, ?_, ?_⟩
      · show qdel k (pho V) j = false; simp [qdel, g1]
      · show qdel k (psa V) j = false; simp [qdel, g2]
      · show pu (pde V) k 0 j = 0; rw [pu_n _ _ e]; exact g3
theorem pc_come {σ : dc_HP} {b : Nat} {V : pV} (h : pC σ b V) {k v d : Nat} (hk : k < 8) : ∃ τ, fn_X0_come σ b (nI k) (nI v) (nI d) = some τ ∧ pC τ b (qcome V k v d) ∧ pF b (b + 2) σ τ := by
  obtain ⟨h0, h1, h2, h3, h4, h5, h6, h7, h8⟩ := h
  unfold fn_X0_come
  rw [px_withinN (by omega) (by decide) (by decide), if_pos (by omega), Option.bind_some, if_neg (by decide)]
  simp only [dc_let]
  rw [px_gg hk (by decide), px_gg hk (by decide), nI_clamp (by omega)]
  refine ⟨_, rfl, ⟨?_, ?_, ?_, ?_, fun j hj => ?_, fun j hj => ?_, fun p hp w hw => ?_, fun p hp => ?_, fun p hp => ?_⟩, ⟨fun c j hc => ?_, rfl⟩⟩
  · have : nI (pm (pth V) 8) ||| (nI 1 <<< (nI k &&& 31)) = nI (pm (qadd k (pth V)) 8) := px_set (pth V) (Nat.le_refl 8) hk
    simpa [dc_wI, h0, qcome, pth, pho, psa, pev, pvo, pde, pnd, pba, ppy] using this
  · have : nI (pm (pho V) 8) &&& ((nI 1 <<< (nI k &&& 31)) ^^^ (-1 : Int32)) = nI (pm (qdel k (pho V)) 8) := px_clr (pho V) (Nat.le_refl 8) hk
    simpa [dc_wI, h1, qcome, pth, pho, psa, pev, pvo, pde, pnd, pba, ppy] using this
  · have : nI (pm (psa V) 8) &&& ((nI 1 <<< (nI k &&& 31)) ^^^ (-1 : Int32)) = nI (pm (qdel k (psa V)) 8) := px_clr (psa V) (Nat.le_refl 8) hk
    simpa [dc_wI, h2, qcome, pth, pho, psa, pev, pvo, pde, pnd, pba, ppy] using this
  · simpa [dc_wI, qcome, pth, pho, psa, pev, pvo, pde, pnd, pba, ppy] using h3
  · by_cases e : j = k
    · subst e; simp [dc_wI, qcome, pu, pth, pho, psa, pev, pvo, pde, pnd, pba, ppy]
    · have := h4 j hj; simpa [dc_wI, qcome, pu, e, pth, pho, psa, pev, pvo, pde, pnd, pba, ppy] using this
  · by_cases e : j = k
    · subst e; simp [dc_wI, qcome, pu, pth, pho, psa, pev, pvo, pde, pnd, pba, ppy]
    · have := h5 j hj; simpa [dc_wI, qcome, pu, e, pth, pho, psa, pev, pvo, pde, pnd, pba, ppy] using this
  · have := h6 p hp w hw; simpa [dc_wI, qcome, pth, pho, psa, pev, pvo, pde, pnd, pba, ppy] using this
  · have := h7 p hp; simpa [dc_wI, qcome, pth, pho, psa, pev, pvo, pde, pnd, pba, ppy] using this
  · have := h8 p hp; simpa [dc_wI, qcome, pth, pho, psa, pev, pvo, pde, pnd, pba, ppy] using this
  · have n0 : ¬ c = b := by omega
    have n1 : ¬ c = b + 1 := by omega
    have n2 : ¬ c = b + 2 := by omega
    simp [dc_wI, n0, n1, n2]
theorem op_singer (x y z : Int32) : pOp (fun σ => fn_X8_singer σ x y z) (fun σ => fn_X9_singer σ x y z) := by
  intro σ hR
  have hR' := hR
  obtain ⟨G, ho, hc, hm⟩ := hR
  have n1 : ¬ nI 1 = 0 := by decide
  by_cases hx : pr x 0 7
  · have ex := (px_within (x := x) (lo := 0) (hi := 7) (by decide) (by decide)).1 hx
    have fx := (px_in (x := x) (lo := 0) (hi := 7) (L := 0) (H := 7) (by decide) (by decide)).1 hx
    by_cases hy : pr y 0 3
    · have ey := (px_within (x := y) (lo := 0) (hi := 3) (by decide) (by decide)).1 hy
      have fy := (px_in (x := y) (lo := 0) (hi := 3) (L := 0) (H := 3) (by decide) (by decide)).1 hy
      by_cases hz : pr z 0 999
      · have ez := (px_within (x := z) (lo := 0) (hi := 999) (by decide) (by decide)).1 hz
        have fz := (px_in (x := z) (lo := 0) (hi := 999) (L := 0) (H := 999) (by decide) (by decide)).1 hz
        obtain ⟨k, hk, rfl⟩ := pr_of (by decide) hx
        obtain ⟨v, hv, rfl⟩ := pr_of (by decide) hy
        obtain ⟨d, hd, rfl⟩ := pr_of (by decide) hz
        have hk8 : k < 8 := by omega
        obtain ⟨α, a1, a2, a3⟩ := pc_come hc.1 (v := v) (d := d) hk8
        have hmα : pML α G := hm.c ho a3 (by decide)
        obtain ⟨hmm, smm, h0, h1, h2, h3, h4, h5, h6, h7⟩ := hmα.1
        simp only [fn_X8_singer, fn_X9_singer, ex, ey, ez, fx, fy, fz, Option.bind_some, n1, if_false, a1, dc_let]
        simp only [nI_clamp (show k < 2 ^ 31 by omega), px_gj hk8 (show 8 < 2 ^ 31 by decide), if_false, a2.1, (px_cnt _).1, Option.bind_some, h0]
        generalize hβ : dc_wI (dc_wI (dc_wI (dc_wI (dc_wI α 55 0 (α.1 55 0 ||| (nI 1 <<< (nI k &&& 31)))) 55 1 ((dc_wI α 55 0 (α.1 55 0 ||| (nI 1 <<< (nI k &&& 31)))).1 55 1 &&& ((nI 1 <<< (nI k &&& 31)) ^^^ (-1 : Int32)))) 55 2 ((dc_wI (dc_wI α 55 0 (α.1 55 0 ||| (nI 1 <<< (nI k &&& 31)))) 55 1 ((dc_wI α 55 0 (α.1 55 0 ||| (nI 1 <<< (nI k &&& 31)))).1 55 1 &&& ((nI 1 <<< (nI k &&& 31)) ^^^ (-1 : Int32)))).1 55 2 &&& ((nI 1 <<< (nI k &&& 31)) ^^^ (-1 : Int32)))) 56 k (nI v)) 57 k (nI d) = β
        have w : pW (fun c j => (c = 55 ∧ j < 3) ∨ ((c = 56 ∨ c = 57) ∧ j = k)) α β := by
          rw [← hβ]
          exact ((((pW.rf.w (Or.inl ⟨rfl, by decide⟩)).w (Or.inl ⟨rfl, by decide⟩)).w (Or.inl ⟨rfl, by decide⟩)).w (Or.inr ⟨Or.inl rfl, rfl⟩)).w (Or.inr ⟨Or.inr rfl, rfl⟩)
        have b0 : β.1 55 0 = nI (pm (qadd k (pth G.1)) 8) := by
          rw [← hβ]
          have : nI (pm (pth G.1) 8) ||| (nI 1 <<< (nI k &&& 31)) = nI (pm (qadd k (pth G.1)) 8) := px_set (pth G.1) (Nat.le_refl 8) hk8
          simpa [dc_wI, h0] using this
        have b1 : β.1 55 1 = nI (pm (qdel k hmm) 8) := by
          rw [← hβ]
          have : nI (pm hmm 8) &&& ((nI 1 <<< (nI k &&& 31)) ^^^ (-1 : Int32)) = nI (pm (qdel k hmm) 8) := px_clr hmm (Nat.le_refl 8) hk8
          simpa [dc_wI, h1] using this
        have b2 : β.1 55 2 = nI (pm (qdel k smm) 8) := by
          rw [← hβ]
          have : nI (pm smm 8) &&& ((nI 1 <<< (nI k &&& 31)) ^^^ (-1 : Int32)) = nI (pm (qdel k smm) 8) := px_clr smm (Nat.le_refl 8) hk8
          simpa [dc_wI, h2] using this
        have b56 : β.1 56 k = nI v := by rw [← hβ]; simp [dc_wI]
        have b57 : β.1 57 k = nI d := by rw [← hβ]; simp [dc_wI]
        refine ⟨nI (pc (qadd k (pth G.1)) 8), α, β, rfl, ?_, (qcome G.1 k v d, G.2), ⟨qcome_ok ho.1 (by omega) hd, ho.2⟩, hc.choir _ (fun c j u q => (w.1 c j (by unfold Uc at u; omega)).trans (a3.1 c j (by omega))) (a2.other (fun j _ => w.1 1 j (by omega)) (fun c j c1 c2 => w.1 (1 + c) j (by omega))), hmα.choir ho _ (fun c j u q => w.1 c j (by omega)) ⟨qdel k hmm, qdel k smm, b0, b1, b2, (w.1 55 3 (by omega)).trans h3, fun j hj ht => ?_, fun p hp u hu => (w.1 58 _ (by omega)).trans (h5 p hp u hu), fun p hp => (w.1 59 p (by omega)).trans (h6 p hp), fun p hp => (w.1 60 p (by omega)).trans (h7 p hp)⟩⟩
        · have e : ∀ s : dc_HP, s = β → ((fn_X9_bitsOf (s.1 55 0)).bind (fun r99 => some (r99, s))) = some (nI (pc (qadd k (pth G.1)) 8), β) := fun s e => by rw [e, b0, (px_cnt _).2, Option.bind_some]
          exact e _ hβ
        · by_cases ej : j = k
          · subst ej
            refine ⟨?_, ?_, ?_, ?_⟩
            · show qdel j hmm j = qdel j (pho G.1) j; simp [qdel]
            · show qdel j smm j = qdel j (psa G.1) j; simp [qdel]
            · show β.1 56 j = nI (pu (pvo G.1) j v j); rw [pu_s]; exact b56
            · show β.1 57 j = nI (pu (pde G.1) j d j); rw [pu_s]; exact b57
          · have ht' : (decide (j = k) || pth G.1 j) = true := ht
            have ht2 : pth G.1 j = true := by simpa [ej] using ht'
            obtain ⟨z1, z2, z3, z4⟩ := h4 j hj ht2
            refine ⟨?_, ?_, ?_, ?_⟩
            · show qdel k hmm j = qdel k (pho G.1) j; simp [qdel, z1]
            · show qdel k smm j = qdel k (psa G.1) j; simp [qdel, z2]
            · show β.1 56 j = nI (pu (pvo G.1) k v j); rw [pu_n _ _ ej, w.1 56 j (by omega)]; exact z3
            · show β.1 57 j = nI (pu (pde G.1) k d j); rw [pu_n _ _ ej, w.1 57 j (by omega)]; exact z4
      · refine ⟨(-2 : Int32), σ, σ, ?_, ?_, hR'⟩
        · simp only [fn_X8_singer, ex, ey, (px_within (x := z) (lo := 0) (hi := 999) (by decide) (by decide)).2 hz, Option.bind_some, n1, if_false]
          rw [if_pos nI_0]
        · simp only [fn_X9_singer, fx, fy, (px_in (x := z) (lo := 0) (hi := 999) (L := 0) (H := 999) (by decide) (by decide)).2 hz, Option.bind_some, n1, if_false]
          rw [if_pos nI_0]
    · refine ⟨(-2 : Int32), σ, σ, ?_, ?_, hR'⟩
      · simp only [fn_X8_singer, ex, (px_within (x := y) (lo := 0) (hi := 3) (by decide) (by decide)).2 hy, Option.bind_some, n1, if_false]
        rw [if_pos nI_0]
      · simp only [fn_X9_singer, fx, (px_in (x := y) (lo := 0) (hi := 3) (L := 0) (H := 3) (by decide) (by decide)).2 hy, Option.bind_some, n1, if_false]
        rw [if_pos nI_0]
  · refine ⟨(-1 : Int32), σ, σ, ?_, ?_, hR'⟩
    · simp only [fn_X8_singer, (px_within (x := x) (lo := 0) (hi := 7) (by decide) (by decide)).2 hx, Option.bind_some]
      rw [if_pos nI_0]
    · simp only [fn_X9_singer, (px_in (x := x) (lo := 0) (hi := 7) (L := 0) (H := 7) (by decide) (by decide)).2 hx, Option.bind_some]
      rw [if_pos nI_0]
theorem op_leave (x : Int32) : pOp (fun σ => fn_X8_leave σ x) (fun σ => fn_X9_leave σ x) := by
  intro σ hR
  have hR' := hR
  obtain ⟨G, ho, hc, hm⟩ := hR
  by_cases hx : pr x 0 7
  · obtain ⟨k, hk, rfl⟩ := pr_of (by decide) hx
    have hk8 : k < 8 := by omega
    cases ht : pth G.1 k with
    | false =>
      refine ⟨(-1 : Int32), σ, σ, ?_, ?_, hR'⟩
      · simp only [fn_X8_leave, pc_has hc.1 hk8, ht, Option.bind_some]
        exact if_pos (by decide)
      · simp only [fn_X9_leave, pm_is hm.1 hk8, ht, Option.bind_some]
        exact if_pos (by decide)
    | true =>
      have n1 : ¬ nI 1 = 0 := by decide
      have i1 : fn_X0_has σ 1 (nI k) = some (nI 1) := by rw [pc_has hc.1 hk8, ht]; rfl
      have i2 : ∀ τ, pML τ G → fn_X9_isSinger τ (nI k) = some (nI 1) := fun τ h => by rw [pm_is h.1 hk8, ht]; rfl
      obtain ⟨γ, a1, a2, a3⟩ := pc_come hc.1 (v := 0) (d := 0) hk8
      generalize hα : dc_wI γ 1 0 (γ.1 1 0 &&& ((nI 1 <<< (nI k &&& 31)) ^^^ (-1 : Int32))) = α
      have e1 : ∀ c j, ¬ (c = 1 ∧ j = 0) → α.1 c j = γ.1 c j := fun c j q => by rw [← hα]; simp [dc_wI, q]
      have e0 : α.1 1 0 = nI (pm (qdel k (pth G.1)) 8) := by
        have g0 : γ.1 1 0 = nI (pm (qadd k (pth G.1)) 8) := a2.1
        have : nI (pm (qadd k (pth G.1)) 8) &&& ((nI 1 <<< (nI k &&& 31)) ^^^ (-1 : Int32)) = nI (pm (qdel k (qadd k (pth G.1))) 8) := px_clr _ (Nat.le_refl 8) hk8
        have e : α.1 1 0 = γ.1 1 0 &&& ((nI 1 <<< (nI k &&& 31)) ^^^ (-1 : Int32)) := by rw [← hα]; simp [dc_wI]
        rw [e, g0, this]
        congr 1
        apply pm_congr
        intro j _
        unfold qdel qadd
        by_cases e : j = k <;> simp [e]
      have cl : pC α 1 (qgo G.1 k) := ⟨e0, (e1 1 1 (by decide)).trans a2.2.1, (e1 1 2 (by decide)).trans a2.2.2.1, (e1 1 3 (by decide)).trans a2.2.2.2.1, fun j hj => (e1 2 j (by omega)).trans (a2.2.2.2.2.1 j hj), fun j hj => (e1 3 j (by omega)).trans (a2.2.2.2.2.2.1 j hj), fun p hp v hv => (e1 4 _ (by omega)).trans (a2.2.2.2.2.2.2.1 p hp v hv), fun p hp => (e1 5 p (by omega)).trans (a2.2.2.2.2.2.2.2.1 p hp), fun p hp => (e1 6 p (by omega)).trans (a2.2.2.2.2.2.2.2.2 p hp)⟩
      have f : pF 1 3 σ α := ⟨fun c j q => (e1 c j (by omega)).trans (a3.1 c j (by omega)), by rw [← hα]; exact a3.2⟩
      have hmα : pML α G := hm.c ho f (by decide)
      obtain ⟨hmm, smm, h0, h1, h2, h3, h4, h5, h6, h7⟩ := hmα.1
      generalize hβ : dc_wI α 55 0 (α.1 55 0 &&& ((nI 1 <<< (nI k &&& 31)) ^^^ (-1 : Int32))) = β
      have w1 : ∀ c j, ¬ (c = 55 ∧ j = 0) → β.1 c j = α.1 c j := fun c j q => by rw [← hβ]; simp [dc_wI, q]
      have w0 : β.1 55 0 = nI (pm (qdel k (pth G.1)) 8) := by
        have : nI (pm (pth G.1) 8) &&& ((nI 1 <<< (nI k &&& 31)) ^^^ (-1 : Int32)) = nI (pm (qdel k (pth G.1)) 8) := px_clr _ (Nat.le_refl 8) hk8
        rw [← hβ]
        simpa [dc_wI, h0] using this
      refine ⟨nI (pc (qdel k (pth G.1)) 8), α, β, ?_, ?_, (qgo G.1 k, G.2), ⟨qgo_ok ho.1, ho.2⟩, hc.choir _ (fun c j u q => (w1 c j (by unfold Uc at u; omega)).trans (f.1 c j (by omega))) (cl.other (fun j _ => w1 1 j (by omega)) (fun c j c1 c2 => w1 (1 + c) j (by omega))), hmα.choir ho _ (fun c j u q => w1 c j (by omega)) ⟨hmm, smm, w0, (w1 55 1 (by omega)).trans h1, (w1 55 2 (by omega)).trans h2, (w1 55 3 (by omega)).trans h3, fun j hj hjt => ?_, fun p hp u hu => (w1 58 _ (by omega)).trans (h5 p hp u hu), fun p hp => (w1 59 p (by omega)).trans (h6 p hp), fun p hp => (w1 60 p (by omega)).trans (h7 p hp)⟩⟩
      · simp only [fn_X8_leave, fn_X0_go, i1, Option.bind_some, n1, if_false, show fn_X0_come σ 1 (nI k) (nI 0) (nI 0) = some γ from a1, hα]
        rw [e0, (px_cnt _).1, Option.bind_some]
      · simp only [fn_X9_leave, i2 α hmα, Option.bind_some, n1, if_false, dc_let, hβ]
        rw [w0, (px_cnt _).2, Option.bind_some]
      · have ht' : (!decide (j = k) && pth G.1 j) = true := hjt
        rw [Bool.and_eq_true] at ht'
        have ej : j ≠ k := by simpa using ht'.1
        obtain ⟨z1, z2, z3, z4⟩ := h4 j hj ht'.2
        refine ⟨?_, ?_, ?_, ?_⟩
        · show hmm j = qdel k (pho G.1) j; simp [qdel, ej, z1]
        · show smm j = qdel k (psa G.1) j; simp [qdel, ej, z2]
        · show β.1 56 j = nI (pu (pvo G.1) k 0 j); rw [pu_n _ _ ej, w1 56 j (by omega)]; exact z3
        · show β.1 57 j = nI (pu (pde G.1) k 0 j); rw [pu_n _ _ ej, w1 57 j (by omega)]; exact z4
  · refine ⟨(-1 : Int32), σ, σ, ?_, ?_, hR'⟩
    · simp only [fn_X8_leave, pc_hasN hx, Option.bind_some]
      rw [if_pos nI_0]
    · simp only [fn_X9_leave, pm_isN hx, Option.bind_some]
      rw [if_pos nI_0]
theorem pl_may {σ : dc_HP} {V : pV} (h : pC σ 1 V) (ho : pOk V) : ∀ d i n, i + d = 6 → d < n → fn_X8_may_L4 σ n (nI (pm (fun j => decide (j < i) && qcanb V j) 8)) (nI i) = some (nI (pm (fun j => decide (j < 6) && qcanb V j) 8)) := by
  intro d
  induction d with
  | zero =>
    intro i n hi hn
    obtain ⟨m, rfl⟩ : ∃ m, n = m + 1 := ⟨n - 1, by omega⟩
    obtain rfl : i = 6 := by omega
    unfold fn_X8_may_L4
    rw [if_pos (nI_le (Nat.le_refl 6) (by decide))]
  | succ d ih =>
    intro i n hi hn
    obtain ⟨m, rfl⟩ : ∃ m, n = m + 1 := ⟨n - 1, by omega⟩
    unfold fn_X8_may_L4
    obtain ⟨g1, g2⟩ := pc_can h ho (p := i) (by omega)
    rw [if_neg (nI_ge (by omega) (by decide)), nI_add]
    cases c : qcanb V i with
    | false =>
      rw [g2 (fun q => by rw [(qcanb_iff V i).mpr q] at c; cases c), Option.bind_some, if_pos (show nI 0 = 0 from nI_0), pm_acc0 (g := qcanb V) c]
      exact ih (i + 1) m (by omega) (by omega)
    | true =>
      rw [g1 ((qcanb_iff V i).mp c), Option.bind_some, if_neg (show ¬ nI 1 = 0 by decide), px_set _ (by decide) (by omega), pm_acc1 (g := qcanb V) c]
      exact ih (i + 1) m (by omega) (by omega)
theorem pl_mmay {σ : dc_HP} {V : pV} (h : pM σ V) (ho : pOk V) : ∀ d i n, i + d = 6 → d < n → fn_X9_may_L4 σ n (nI (pm (fun j => decide (j < i) && qcanb V j) 8)) (nI i) = some (nI (pm (fun j => decide (j < 6) && qcanb V j) 8)) := by
  intro d
  induction d with
  | zero =>
    intro i n hi hn
    obtain ⟨m, rfl⟩ : ∃ m, n = m + 1 := ⟨n - 1, by omega⟩
    obtain rfl : i = 6 := by omega
    unfold fn_X9_may_L4
    rw [if_pos (nI_le (Nat.le_refl 6) (by decide))]
  | succ d ih =>
    intro i n hi hn
    obtain ⟨m, rfl⟩ : ∃ m, n = m + 1 := ⟨n - 1, by omega⟩
    unfold fn_X9_may_L4
    rw [if_neg (nI_ge (by omega) (by decide)), nI_add, pm_can h ho (by omega), Option.bind_some]
    cases c : qcanb V i with
    | false =>
      rw [if_pos (by decide), px_or, Nat.or_zero, pm_acc0 (g := qcanb V) c]
      exact ih (i + 1) m (by omega) (by omega)
    | true =>
      rw [if_neg (by decide), px_set _ (by decide) (by omega), pm_acc1 (g := qcanb V) c]
      exact ih (i + 1) m (by omega) (by omega)
theorem op_may : pRd fn_X8_may fn_X9_may := by
  intro σ hR
  obtain ⟨G, ho, hc, hm⟩ := hR
  have e1 := pl_may hc.1 ho.1 6 0 200 rfl (by decide)
  have e2 := pl_mmay hm.1 ho.1 6 0 200 rfl (by decide)
  rw [pm_none] at e1 e2
  exact ⟨_, by rw [fn_X8_may, e1, Option.bind_some], by rw [fn_X9_may, e2, Option.bind_some]⟩
theorem px_told {x : Int32} {a : Nat} (ha : 100 ≤ a) (hb : a ≤ 159) : (nI a - nI 100) / nI 10 = nI ((a - 100) / 10) := by
  rw [pk_sub ha, px_div10 (by omega)]
theorem op_told (x : Int32) : pRd (fun σ => fn_X8_told σ x) (fun σ => fn_X9_told σ x) := by
  intro σ hR
  obtain ⟨G, ho, hc, hm⟩ := hR
  have n1 : ¬ nI 1 = 0 := by decide
  obtain ⟨hmm, smm, h0, h1, h2, h3, h4, h5, h6, h7⟩ := hm.1
  by_cases hx : pr x 100 159
  · have e1 := (px_within (x := x) (lo := 100) (hi := 159) (by decide) (by decide)).1 hx
    have f1 := (px_in (x := x) (lo := 100) (hi := 159) (L := 100) (H := 159) (by decide) (by decide)).1 hx
    obtain ⟨a, ha, rfl⟩ := px_of (x := x) (a := 159) (by decide) (by have := hx.1; omega) hx.2
    have ha1 : 100 ≤ a := by have := hx.1; rw [nI_toInt (by omega)] at this; omega
    simp only [fn_X8_told, fn_X9_told, e1, f1, Option.bind_some, n1, if_false]
    rw [pk_sub ha1, px_div10 (by omega), px_rem10 (by omega)]
    have hp : (a - 100) / 10 < 6 := by omega
    have hq : a % 10 < 10 := Nat.mod_lt _ (by decide)
    generalize (a - 100) / 10 = p at hp ⊢
    generalize a % 10 = q at hq ⊢
    unfold fn_X8_tellPiece fn_X9_toldOfPiece
    rw [px_withinN (by omega) (by decide) (by decide), Option.bind_some]
    by_cases c : q ≤ 3
    · rw [if_pos (show 0 ≤ q ∧ q ≤ 3 by omega), if_neg n1, pc_needOf hc.1 hp (by omega), if_neg (nI_ge (by omega) (by decide)), pk_mul, nI_add, px_gg (by omega) (by decide), nI_clamp (by omega), h5 p hp q (by omega)]
      exact ⟨_, rfl, rfl⟩
    · rw [if_neg (show ¬ (0 ≤ q ∧ q ≤ 3) by omega), if_pos nI_0, if_pos (nI_le (by omega) (by omega)), pc_barsOf hc.1 hp, pc_payOf hc.1 hp, px_gg hp (by decide), px_gg hp (by decide), nI_clamp (by omega), h6 p hp, h7 p hp]
      by_cases c4 : nI q = nI 4
      · rw [if_pos c4, if_pos c4]; exact ⟨_, rfl, rfl⟩
      · rw [if_neg c4, if_neg c4]
        by_cases c5 : nI q = nI 5
        · rw [if_pos c5, if_pos c5]; exact ⟨_, rfl, rfl⟩
        · rw [if_neg c5, if_neg c5]; exact ⟨_, rfl, rfl⟩
  · have e1 := (px_within (x := x) (lo := 100) (hi := 159) (by decide) (by decide)).2 hx
    have f1 := (px_in (x := x) (lo := 100) (hi := 159) (L := 100) (H := 159) (by decide) (by decide)).2 hx
    by_cases hy : pr x 10 89
    · have e2 := (px_within (x := x) (lo := 10) (hi := 89) (by decide) (by decide)).1 hy
      have f2 := (px_in (x := x) (lo := 10) (hi := 89) (L := 10) (H := 89) (by decide) (by decide)).1 hy
      obtain ⟨a, ha, rfl⟩ := px_of (x := x) (a := 89) (by decide) (by have := hy.1; omega) hy.2
      have ha1 : 10 ≤ a := by have := hy.1; rw [nI_toInt (by omega)] at this; omega
      simp only [fn_X8_told, fn_X9_told, e1, f1, e2, f2, Option.bind_some, n1, if_false]
      rw [if_pos nI_0, if_pos nI_0, px_div10 (by omega), pk_sub (by omega), show nI a - nI (a / 10) * nI 10 = nI (a % 10) by rw [← px_div10 (by omega), px_rem10 (by omega)]]
      have hp : a / 10 - 1 < 8 := by omega
      have hq : a % 10 < 10 := Nat.mod_lt _ (by decide)
      generalize a / 10 - 1 = p at hp ⊢
      generalize a % 10 = q at hq ⊢
      unfold fn_X8_tellSinger fn_X9_toldOfSinger
      rw [pc_has hc.1 hp, pm_is hm.1 hp, Option.bind_some, Option.bind_some]
      cases ht : pth G.1 p with
      | false =>
        rw [if_pos (show nI (if false = true then 1 else 0) = 0 by decide), if_pos (show nI (if false = true then 1 else 0) = 0 by decide)]
        exact ⟨_, rfl, rfl⟩
      | true =>
        obtain ⟨z1, z2, z3, z4⟩ := h4 p hp ht
        rw [if_neg (show ¬ nI (if true = true then 1 else 0) = 0 by decide), if_neg (show ¬ nI (if true = true then 1 else 0) = 0 by decide), px_gg hp (by decide), px_gg hp (by decide), nI_clamp (by omega), z3, z4, pc_debtOf hc.1 ho.1 hp, fn_X8_bit, fn_X8_bit, hc.1.2.1, hc.1.2.2.1, h1, h2, px_pmbit _ (by decide) hp, px_pmbit _ (by decide) hp, px_pmbit _ (by decide) hp, px_pmbit _ (by decide) hp, z1, z2]
        have v : fn_X0_voiceOf σ 1 (nI p) = some (nI (pvo G.1 p)) := by
          unfold fn_X0_voiceOf
          rw [pc_has hc.1 hp, ht, Option.bind_some, if_neg (by decide), px_gg hp (by decide), nI_clamp (by omega), hc.1.2.2.2.2.1 p hp]
        rw [v]
        rw [show (0 : Int32) = nI 0 from nI_0.symm]
        by_cases c0 : nI q = nI 0
        · rw [if_pos c0, if_pos c0]; exact ⟨_, rfl, rfl⟩
        rw [if_neg c0, if_neg c0]
        by_cases c1 : nI q = nI 1
        · rw [if_pos c1, if_pos c1]; exact ⟨_, rfl, rfl⟩
        rw [if_neg c1, if_neg c1]
        by_cases c2 : nI q = nI 2
        · rw [if_pos c2, if_pos c2]; exact ⟨_, rfl, rfl⟩
        rw [if_neg c2, if_neg c2]
        by_cases c3 : nI q = nI 3
        · rw [if_pos c3, if_pos c3]; exact ⟨_, rfl, rfl⟩
        rw [if_neg c3, if_neg c3]
        exact ⟨_, rfl, rfl⟩
    · have e2 := (px_within (x := x) (lo := 10) (hi := 89) (by decide) (by decide)).2 hy
      have f2 := (px_in (x := x) (lo := 10) (hi := 89) (L := 10) (H := 89) (by decide) (by decide)).2 hy
      simp only [fn_X8_told, fn_X9_told, e1, f1, e2, f2, Option.bind_some]
      rw [if_pos nI_0, if_pos nI_0, if_pos nI_0, if_pos nI_0, hc.2.1.1, hm.2.1.1, hc.1.1, h0, hc.1.2.2.2.1, h3, hc.2.2.1.1, hm.2.2.1.1]
      by_cases c0 : x = nI 0
      · rw [if_pos c0]; exact ⟨_, rfl, rfl⟩
      rw [if_neg c0]
      by_cases c1 : x = nI 1
      · rw [if_pos c1]; exact ⟨_, rfl, rfl⟩
      rw [if_neg c1]
      by_cases c2 : x = nI 2
      · rw [if_pos c2]; exact ⟨_, rfl, rfl⟩
      rw [if_neg c2]
      by_cases c3 : x = nI 3
      · rw [if_pos c3]; exact ⟨_, rfl, rfl⟩
      rw [if_neg c3]
      exact ⟨_, rfl, rfl⟩
