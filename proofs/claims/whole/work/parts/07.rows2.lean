theorem dc_le {a b : Nat} (h : Nat.ble a b = true) : a ≤ b := Nat.le_of_ble_eq_true h
theorem dc_bn {v : Int32} (g : v = 0 ∨ v = 1) : narrow .boolean (.int v) = .int v := by rcases g with rfl | rfl <;> decide
theorem dc_swn {x : Int32} {k : Nat} (hk : k < 2 ^ 31) (c : ¬ x = nI k) : x.toInt ≠ (k : Int) := fun q => c (Int32.toInt_inj.mp (q.trans (nI_toInt hk).symm))
theorem dc_inr {α β γ : Type} {f : α → γ} {g : β → γ} {x : β} {r : γ} (h : Sum.elim f g (.inr x) = r) : g x = r := h
def dc_let {α β : Type} (a : α) (f : α → β) : β := f a
theorem dc_lt {α β : Type} {a s : α} {f : α → β} {r : β} (e : s = a) (h : dc_let a f = r) : f s = r := by subst e; exact h
def dc_len (q : Nat) : Nat := match dc_lay[q]? with
  | some (.inr (_, n)) => n
  | _ => 0
def dc_mask : List Bool → List (Option Value) → List (Option Value)
  | true :: m, a :: l => a :: dc_mask m l
  | false :: m, _ :: l => none :: dc_mask m l
  | [], l => l
  | _ :: _, [] => []
theorem dc_mask_get : ∀ (m : List Bool) (l : List (Option Value)) (i : Nat) (v : Value), (dc_mask m l)[i]? = some (some v) → l[i]? = some (some v)
  | true :: m, a :: l, 0, v, h => h
  | true :: m, a :: l, i + 1, v, h => dc_mask_get m l i v (by simpa [dc_mask] using h)
  | false :: m, a :: l, 0, v, h => by simp [dc_mask] at h
  | false :: m, a :: l, i + 1, v, h => dc_mask_get m l i v (by simpa [dc_mask] using h)
  | [], l, i, v, h => h
  | _ :: _, [], i, v, h => by simp [dc_mask] at h
section DX2
variable {κ : dc_KX} {own : String} {b : ByteArray} {nL fr lo pc : Nat} {ls : List (Option Value)} {st : List Value} {σ : dc_HP}
theorem dx_nm (k : ∀ s, s = σ → dc_X κ pc ls st s) : dc_X κ pc ls st σ := k σ rfl
theorem dx_wk (m : List Bool) (k : dc_X κ pc (dc_mask m ls) st σ) : dc_X κ pc ls st σ := by
  obtain ⟨p, l, e, R, s, mm, args, below, meth, c, cells, slots, Z, D, cA, ad, A, H0⟩ := κ
  intro H locs la hP hS hL
  exact k H locs la hP hS ⟨hL.1, hL.2.1, fun i v h => hL.2.2 i v (dc_mask_get m ls i v h)⟩
theorem dx_getI (hC : dc_Cx κ own b nL fr lo) {idx ci j q1 : Nat} {ks : List Nat} {q : vw_C} (hd : decode b pc = .ok (.getfield idx, 3)) (hf : dc_fl own idx ci j q) (hk : dc_lay[q1]? = some (.inl (ci, ks))) (hj : ks[j]? = some 0) (k : dc_X κ (pc + 3) ls (.int (σ.1 q1 j) :: st) σ) : dc_X κ pc ls (.ref q1 :: st) σ := dx_get hC hd hf hk hj rfl k
theorem dx_getZ (hC : dc_Cx κ own b nL fr lo) {idx ci j q1 : Nat} {ks : List Nat} {q : vw_C} (hd : decode b pc = .ok (.getfield idx, 3)) (hf : dc_fl own idx ci j q) (hk : dc_lay[q1]? = some (.inl (ci, ks))) (hj : ks[j]? = some 2) (k : dc_X κ (pc + 3) ls (.int (σ.1 q1 j) :: st) σ) : dc_X κ pc ls (.ref q1 :: st) σ := dx_get hC hd hf hk hj rfl k
theorem dx_getJ (hC : dc_Cx κ own b nL fr lo) {idx ci j q1 : Nat} {ks : List Nat} {q : vw_C} (hd : decode b pc = .ok (.getfield idx, 3)) (hf : dc_fl own idx ci j q) (hk : dc_lay[q1]? = some (.inl (ci, ks))) (hj : ks[j]? = some 1) (k : dc_X κ (pc + 3) ls (.long (σ.2 q1 j) :: st) σ) : dc_X κ pc ls (.ref q1 :: st) σ := dx_get hC hd hf hk hj rfl k
theorem dx_getR {r : Nat} (hC : dc_Cx κ own b nL fr lo) {idx ci j q1 : Nat} {ks : List Nat} {q : vw_C} (hd : decode b pc = .ok (.getfield idx, 3)) (hf : dc_fl own idx ci j q) (hk : dc_lay[q1]? = some (.inl (ci, ks))) (hj : ks[j]? = some (r + 3)) (k : dc_X κ (pc + 3) ls (.ref r :: st) σ) : dc_X κ pc ls (.ref q1 :: st) σ := dx_get hC hd hf hk hj rfl k
theorem dx_callVir {As rest : List Value} (hC : dc_Cx κ own b nL fr lo) {idx n : Nat} {M : dc_M} {r : Int32} (hd : decode b pc = .ok (.invokevirtual idx, 3)) (hw : dc_lkV own idx M n) (hn : As.length = n) {q1 ci : Nat} {ks : List Nat} {q : vw_C} (hk : dc_lay[q1]? = some (.inl (ci, ks))) (hci : dc_cl[ci]? = some q) (hqc : q.1 = M.2.2.1.cls) (hR1 : M.2.2.2.2.2.1 + 1 ≤ fr) (hR2 : 8 + (M.2.2.2.1 + 11) + M.2.2.2.2.2.2 ≤ lo) (hlen : (lg_sl ((.ref q1 :: As).map (dc_cv (fun q => q)))).length ≤ M.2.2.2.1) (hcat : (rest.map fun v => v.category).sum ≤ 8) (hst : st = As.reverse ++ .ref q1 :: rest) (hg : dc_G M (.ref q1 :: As) σ (dc_qi (fun x τ => x = r ∧ τ = σ))) (k : dc_X κ (pc + 3) ls (.int r :: rest) σ) : dc_X κ pc ls st σ :=
  dx_callV hC hd hw hn hk hci hqc hR1 hR2 hlen hcat hst hg (fun r0 τ h => by obtain ⟨x, rfl, rfl, rfl⟩ := h; exact k)
theorem dx_callViw {As rest : List Value} (hC : dc_Cx κ own b nL fr lo) {idx n : Nat} {M : dc_M} {r : Int32 × dc_HP} (hd : decode b pc = .ok (.invokevirtual idx, 3)) (hw : dc_lkV own idx M n) (hn : As.length = n) {q1 ci : Nat} {ks : List Nat} {q : vw_C} (hk : dc_lay[q1]? = some (.inl (ci, ks))) (hci : dc_cl[ci]? = some q) (hqc : q.1 = M.2.2.1.cls) (hR1 : M.2.2.2.2.2.1 + 1 ≤ fr) (hR2 : 8 + (M.2.2.2.1 + 11) + M.2.2.2.2.2.2 ≤ lo) (hlen : (lg_sl ((.ref q1 :: As).map (dc_cv (fun q => q)))).length ≤ M.2.2.2.1) (hcat : (rest.map fun v => v.category).sum ≤ 8) (hst : st = As.reverse ++ .ref q1 :: rest) (hg : dc_G M (.ref q1 :: As) σ (dc_qi (fun x τ => x = r.1 ∧ τ = r.2))) (k : dc_X κ (pc + 3) ls (.int r.1 :: rest) r.2) : dc_X κ pc ls st σ :=
  dx_callV hC hd hw hn hk hci hqc hR1 hR2 hlen hcat hst hg (fun r0 τ h => by obtain ⟨x, rfl, rfl, rfl⟩ := h; exact k)
theorem dx_callVvr {As rest : List Value} (hC : dc_Cx κ own b nL fr lo) {idx n : Nat} {M : dc_M} (hd : decode b pc = .ok (.invokevirtual idx, 3)) (hw : dc_lkV own idx M n) (hn : As.length = n) {q1 ci : Nat} {ks : List Nat} {q : vw_C} (hk : dc_lay[q1]? = some (.inl (ci, ks))) (hci : dc_cl[ci]? = some q) (hqc : q.1 = M.2.2.1.cls) (hR1 : M.2.2.2.2.2.1 + 1 ≤ fr) (hR2 : 8 + (M.2.2.2.1 + 11) + M.2.2.2.2.2.2 ≤ lo) (hlen : (lg_sl ((.ref q1 :: As).map (dc_cv (fun q => q)))).length ≤ M.2.2.2.1) (hcat : (rest.map fun v => v.category).sum ≤ 8) (hst : st = As.reverse ++ .ref q1 :: rest) (hg : dc_G M (.ref q1 :: As) σ (dc_qv (fun τ => τ = σ))) (k : dc_X κ (pc + 3) ls rest σ) : dc_X κ pc ls st σ :=
  dx_callV hC hd hw hn hk hci hqc hR1 hR2 hlen hcat hst hg (fun r0 τ h => by obtain ⟨rfl, rfl⟩ := h; exact k)
theorem dx_callVvw {As rest : List Value} (hC : dc_Cx κ own b nL fr lo) {idx n : Nat} {M : dc_M} {r : dc_HP} (hd : decode b pc = .ok (.invokevirtual idx, 3)) (hw : dc_lkV own idx M n) (hn : As.length = n) {q1 ci : Nat} {ks : List Nat} {q : vw_C} (hk : dc_lay[q1]? = some (.inl (ci, ks))) (hci : dc_cl[ci]? = some q) (hqc : q.1 = M.2.2.1.cls) (hR1 : M.2.2.2.2.2.1 + 1 ≤ fr) (hR2 : 8 + (M.2.2.2.1 + 11) + M.2.2.2.2.2.2 ≤ lo) (hlen : (lg_sl ((.ref q1 :: As).map (dc_cv (fun q => q)))).length ≤ M.2.2.2.1) (hcat : (rest.map fun v => v.category).sum ≤ 8) (hst : st = As.reverse ++ .ref q1 :: rest) (hg : dc_G M (.ref q1 :: As) σ (dc_qv (fun τ => τ = r))) (k : dc_X κ (pc + 3) ls rest r) : dc_X κ pc ls st σ :=
  dx_callV hC hd hw hn hk hci hqc hR1 hR2 hlen hcat hst hg (fun r0 τ h => by obtain ⟨rfl, rfl⟩ := h; exact k)
theorem dx_callVlr {As rest : List Value} (hC : dc_Cx κ own b nL fr lo) {idx n : Nat} {M : dc_M} {r : Int64} (hd : decode b pc = .ok (.invokevirtual idx, 3)) (hw : dc_lkV own idx M n) (hn : As.length = n) {q1 ci : Nat} {ks : List Nat} {q : vw_C} (hk : dc_lay[q1]? = some (.inl (ci, ks))) (hci : dc_cl[ci]? = some q) (hqc : q.1 = M.2.2.1.cls) (hR1 : M.2.2.2.2.2.1 + 1 ≤ fr) (hR2 : 8 + (M.2.2.2.1 + 11) + M.2.2.2.2.2.2 ≤ lo) (hlen : (lg_sl ((.ref q1 :: As).map (dc_cv (fun q => q)))).length ≤ M.2.2.2.1) (hcat : (rest.map fun v => v.category).sum ≤ 8) (hst : st = As.reverse ++ .ref q1 :: rest) (hg : dc_G M (.ref q1 :: As) σ (dc_ql (fun x τ => x = r ∧ τ = σ))) (k : dc_X κ (pc + 3) ls (.long r :: rest) σ) : dc_X κ pc ls st σ :=
  dx_callV hC hd hw hn hk hci hqc hR1 hR2 hlen hcat hst hg (fun r0 τ h => by obtain ⟨x, rfl, rfl, rfl⟩ := h; exact k)
theorem dx_callVlw {As rest : List Value} (hC : dc_Cx κ own b nL fr lo) {idx n : Nat} {M : dc_M} {r : Int64 × dc_HP} (hd : decode b pc = .ok (.invokevirtual idx, 3)) (hw : dc_lkV own idx M n) (hn : As.length = n) {q1 ci : Nat} {ks : List Nat} {q : vw_C} (hk : dc_lay[q1]? = some (.inl (ci, ks))) (hci : dc_cl[ci]? = some q) (hqc : q.1 = M.2.2.1.cls) (hR1 : M.2.2.2.2.2.1 + 1 ≤ fr) (hR2 : 8 + (M.2.2.2.1 + 11) + M.2.2.2.2.2.2 ≤ lo) (hlen : (lg_sl ((.ref q1 :: As).map (dc_cv (fun q => q)))).length ≤ M.2.2.2.1) (hcat : (rest.map fun v => v.category).sum ≤ 8) (hst : st = As.reverse ++ .ref q1 :: rest) (hg : dc_G M (.ref q1 :: As) σ (dc_ql (fun x τ => x = r.1 ∧ τ = r.2))) (k : dc_X κ (pc + 3) ls (.long r.1 :: rest) r.2) : dc_X κ pc ls st σ :=
  dx_callV hC hd hw hn hk hci hqc hR1 hR2 hlen hcat hst hg (fun r0 τ h => by obtain ⟨x, rfl, rfl, rfl⟩ := h; exact k)
theorem dx_callSir {As rest : List Value} (hC : dc_Cx κ own b nL fr lo) {idx n : Nat} {M : dc_M} {r : Int32} (hd : decode b pc = .ok (.invokestatic idx, 3)) (hw : dc_lkS own idx M n) (hn : As.length = n) (hR1 : M.2.2.2.2.2.1 + 1 ≤ fr) (hR2 : 8 + (M.2.2.2.1 + 11) + M.2.2.2.2.2.2 ≤ lo) (hlen : (lg_sl (As.map (dc_cv (fun q => q)))).length ≤ M.2.2.2.1) (hcat : (rest.map fun v => v.category).sum ≤ 8) (hst : st = As.reverse ++ rest) (hg : dc_G M As σ (dc_qi (fun x τ => x = r ∧ τ = σ))) (k : dc_X κ (pc + 3) ls (.int r :: rest) σ) : dc_X κ pc ls st σ :=
  dx_callS hC hd hw hn hR1 hR2 hlen hcat hst hg (fun r0 τ h => by obtain ⟨x, rfl, rfl, rfl⟩ := h; exact k)
theorem dx_callSiw {As rest : List Value} (hC : dc_Cx κ own b nL fr lo) {idx n : Nat} {M : dc_M} {r : Int32 × dc_HP} (hd : decode b pc = .ok (.invokestatic idx, 3)) (hw : dc_lkS own idx M n) (hn : As.length = n) (hR1 : M.2.2.2.2.2.1 + 1 ≤ fr) (hR2 : 8 + (M.2.2.2.1 + 11) + M.2.2.2.2.2.2 ≤ lo) (hlen : (lg_sl (As.map (dc_cv (fun q => q)))).length ≤ M.2.2.2.1) (hcat : (rest.map fun v => v.category).sum ≤ 8) (hst : st = As.reverse ++ rest) (hg : dc_G M As σ (dc_qi (fun x τ => x = r.1 ∧ τ = r.2))) (k : dc_X κ (pc + 3) ls (.int r.1 :: rest) r.2) : dc_X κ pc ls st σ :=
  dx_callS hC hd hw hn hR1 hR2 hlen hcat hst hg (fun r0 τ h => by obtain ⟨x, rfl, rfl, rfl⟩ := h; exact k)
theorem dx_callSvr {As rest : List Value} (hC : dc_Cx κ own b nL fr lo) {idx n : Nat} {M : dc_M} (hd : decode b pc = .ok (.invokestatic idx, 3)) (hw : dc_lkS own idx M n) (hn : As.length = n) (hR1 : M.2.2.2.2.2.1 + 1 ≤ fr) (hR2 : 8 + (M.2.2.2.1 + 11) + M.2.2.2.2.2.2 ≤ lo) (hlen : (lg_sl (As.map (dc_cv (fun q => q)))).length ≤ M.2.2.2.1) (hcat : (rest.map fun v => v.category).sum ≤ 8) (hst : st = As.reverse ++ rest) (hg : dc_G M As σ (dc_qv (fun τ => τ = σ))) (k : dc_X κ (pc + 3) ls rest σ) : dc_X κ pc ls st σ :=
  dx_callS hC hd hw hn hR1 hR2 hlen hcat hst hg (fun r0 τ h => by obtain ⟨rfl, rfl⟩ := h; exact k)
theorem dx_callSvw {As rest : List Value} (hC : dc_Cx κ own b nL fr lo) {idx n : Nat} {M : dc_M} {r : dc_HP} (hd : decode b pc = .ok (.invokestatic idx, 3)) (hw : dc_lkS own idx M n) (hn : As.length = n) (hR1 : M.2.2.2.2.2.1 + 1 ≤ fr) (hR2 : 8 + (M.2.2.2.1 + 11) + M.2.2.2.2.2.2 ≤ lo) (hlen : (lg_sl (As.map (dc_cv (fun q => q)))).length ≤ M.2.2.2.1) (hcat : (rest.map fun v => v.category).sum ≤ 8) (hst : st = As.reverse ++ rest) (hg : dc_G M As σ (dc_qv (fun τ => τ = r))) (k : dc_X κ (pc + 3) ls rest r) : dc_X κ pc ls st σ :=
  dx_callS hC hd hw hn hR1 hR2 hlen hcat hst hg (fun r0 τ h => by obtain ⟨rfl, rfl⟩ := h; exact k)
theorem dx_callSlr {As rest : List Value} (hC : dc_Cx κ own b nL fr lo) {idx n : Nat} {M : dc_M} {r : Int64} (hd : decode b pc = .ok (.invokestatic idx, 3)) (hw : dc_lkS own idx M n) (hn : As.length = n) (hR1 : M.2.2.2.2.2.1 + 1 ≤ fr) (hR2 : 8 + (M.2.2.2.1 + 11) + M.2.2.2.2.2.2 ≤ lo) (hlen : (lg_sl (As.map (dc_cv (fun q => q)))).length ≤ M.2.2.2.1) (hcat : (rest.map fun v => v.category).sum ≤ 8) (hst : st = As.reverse ++ rest) (hg : dc_G M As σ (dc_ql (fun x τ => x = r ∧ τ = σ))) (k : dc_X κ (pc + 3) ls (.long r :: rest) σ) : dc_X κ pc ls st σ :=
  dx_callS hC hd hw hn hR1 hR2 hlen hcat hst hg (fun r0 τ h => by obtain ⟨x, rfl, rfl, rfl⟩ := h; exact k)
theorem dx_callSlw {As rest : List Value} (hC : dc_Cx κ own b nL fr lo) {idx n : Nat} {M : dc_M} {r : Int64 × dc_HP} (hd : decode b pc = .ok (.invokestatic idx, 3)) (hw : dc_lkS own idx M n) (hn : As.length = n) (hR1 : M.2.2.2.2.2.1 + 1 ≤ fr) (hR2 : 8 + (M.2.2.2.1 + 11) + M.2.2.2.2.2.2 ≤ lo) (hlen : (lg_sl (As.map (dc_cv (fun q => q)))).length ≤ M.2.2.2.1) (hcat : (rest.map fun v => v.category).sum ≤ 8) (hst : st = As.reverse ++ rest) (hg : dc_G M As σ (dc_ql (fun x τ => x = r.1 ∧ τ = r.2))) (k : dc_X κ (pc + 3) ls (.long r.1 :: rest) r.2) : dc_X κ pc ls st σ :=
  dx_callS hC hd hw hn hR1 hR2 hlen hcat hst hg (fun r0 τ h => by obtain ⟨x, rfl, rfl, rfl⟩ := h; exact k)
theorem dx_callNir {As rest : List Value} (hC : dc_Cx κ own b nL fr lo) {idx n : Nat} {host : String} {M : dc_M} {r : Int32} (hd : decode b pc = .ok (.invokestatic idx, 3)) (hw : dc_lkN own idx M n host) (hn : As.length = n) (hR1 : M.2.2.2.2.2.1 + 1 ≤ fr) (hR2 : 8 + (M.2.2.2.1 + 11) + M.2.2.2.2.2.2 ≤ lo) (hlen : (lg_sl (As.map (dc_cv (fun q => q)))).length ≤ M.2.2.2.1) (hcat : (rest.map fun v => v.category).sum ≤ 8) (hst : st = As.reverse ++ rest) (hg : dc_G M As σ (dc_qi (fun x τ => x = r ∧ τ = σ))) (k : dc_X κ (pc + 3) ls (.int r :: rest) σ) : dc_X κ pc ls st σ :=
  dx_callN hC hd hw hn hR1 hR2 hlen hcat hst hg (fun r0 τ h => by obtain ⟨x, rfl, rfl, rfl⟩ := h; exact k)
theorem dx_callNiw {As rest : List Value} (hC : dc_Cx κ own b nL fr lo) {idx n : Nat} {host : String} {M : dc_M} {r : Int32 × dc_HP} (hd : decode b pc = .ok (.invokestatic idx, 3)) (hw : dc_lkN own idx M n host) (hn : As.length = n) (hR1 : M.2.2.2.2.2.1 + 1 ≤ fr) (hR2 : 8 + (M.2.2.2.1 + 11) + M.2.2.2.2.2.2 ≤ lo) (hlen : (lg_sl (As.map (dc_cv (fun q => q)))).length ≤ M.2.2.2.1) (hcat : (rest.map fun v => v.category).sum ≤ 8) (hst : st = As.reverse ++ rest) (hg : dc_G M As σ (dc_qi (fun x τ => x = r.1 ∧ τ = r.2))) (k : dc_X κ (pc + 3) ls (.int r.1 :: rest) r.2) : dc_X κ pc ls st σ :=
  dx_callN hC hd hw hn hR1 hR2 hlen hcat hst hg (fun r0 τ h => by obtain ⟨x, rfl, rfl, rfl⟩ := h; exact k)
theorem dx_callNvr {As rest : List Value} (hC : dc_Cx κ own b nL fr lo) {idx n : Nat} {host : String} {M : dc_M} (hd : decode b pc = .ok (.invokestatic idx, 3)) (hw : dc_lkN own idx M n host) (hn : As.length = n) (hR1 : M.2.2.2.2.2.1 + 1 ≤ fr) (hR2 : 8 + (M.2.2.2.1 + 11) + M.2.2.2.2.2.2 ≤ lo) (hlen : (lg_sl (As.map (dc_cv (fun q => q)))).length ≤ M.2.2.2.1) (hcat : (rest.map fun v => v.category).sum ≤ 8) (hst : st = As.reverse ++ rest) (hg : dc_G M As σ (dc_qv (fun τ => τ = σ))) (k : dc_X κ (pc + 3) ls rest σ) : dc_X κ pc ls st σ :=
  dx_callN hC hd hw hn hR1 hR2 hlen hcat hst hg (fun r0 τ h => by obtain ⟨rfl, rfl⟩ := h; exact k)
theorem dx_callNvw {As rest : List Value} (hC : dc_Cx κ own b nL fr lo) {idx n : Nat} {host : String} {M : dc_M} {r : dc_HP} (hd : decode b pc = .ok (.invokestatic idx, 3)) (hw : dc_lkN own idx M n host) (hn : As.length = n) (hR1 : M.2.2.2.2.2.1 + 1 ≤ fr) (hR2 : 8 + (M.2.2.2.1 + 11) + M.2.2.2.2.2.2 ≤ lo) (hlen : (lg_sl (As.map (dc_cv (fun q => q)))).length ≤ M.2.2.2.1) (hcat : (rest.map fun v => v.category).sum ≤ 8) (hst : st = As.reverse ++ rest) (hg : dc_G M As σ (dc_qv (fun τ => τ = r))) (k : dc_X κ (pc + 3) ls rest r) : dc_X κ pc ls st σ :=
  dx_callN hC hd hw hn hR1 hR2 hlen hcat hst hg (fun r0 τ h => by obtain ⟨rfl, rfl⟩ := h; exact k)
theorem dx_callNlr {As rest : List Value} (hC : dc_Cx κ own b nL fr lo) {idx n : Nat} {host : String} {M : dc_M} {r : Int64} (hd : decode b pc = .ok (.invokestatic idx, 3)) (hw : dc_lkN own idx M n host) (hn : As.length = n) (hR1 : M.2.2.2.2.2.1 + 1 ≤ fr) (hR2 : 8 + (M.2.2.2.1 + 11) + M.2.2.2.2.2.2 ≤ lo) (hlen : (lg_sl (As.map (dc_cv (fun q => q)))).length ≤ M.2.2.2.1) (hcat : (rest.map fun v => v.category).sum ≤ 8) (hst : st = As.reverse ++ rest) (hg : dc_G M As σ (dc_ql (fun x τ => x = r ∧ τ = σ))) (k : dc_X κ (pc + 3) ls (.long r :: rest) σ) : dc_X κ pc ls st σ :=
  dx_callN hC hd hw hn hR1 hR2 hlen hcat hst hg (fun r0 τ h => by obtain ⟨x, rfl, rfl, rfl⟩ := h; exact k)
theorem dx_callNlw {As rest : List Value} (hC : dc_Cx κ own b nL fr lo) {idx n : Nat} {host : String} {M : dc_M} {r : Int64 × dc_HP} (hd : decode b pc = .ok (.invokestatic idx, 3)) (hw : dc_lkN own idx M n host) (hn : As.length = n) (hR1 : M.2.2.2.2.2.1 + 1 ≤ fr) (hR2 : 8 + (M.2.2.2.1 + 11) + M.2.2.2.2.2.2 ≤ lo) (hlen : (lg_sl (As.map (dc_cv (fun q => q)))).length ≤ M.2.2.2.1) (hcat : (rest.map fun v => v.category).sum ≤ 8) (hst : st = As.reverse ++ rest) (hg : dc_G M As σ (dc_ql (fun x τ => x = r.1 ∧ τ = r.2))) (k : dc_X κ (pc + 3) ls (.long r.1 :: rest) r.2) : dc_X κ pc ls st σ :=
  dx_callN hC hd hw hn hR1 hR2 hlen hcat hst hg (fun r0 τ h => by obtain ⟨x, rfl, rfl, rfl⟩ := h; exact k)
end DX2
theorem kb_m6 : (Int8.ofInt (-6)).toInt32 = (-6 : Int32) := by decide
theorem kb_m5 : (Int8.ofInt (-5)).toInt32 = (-5 : Int32) := by decide
theorem kb_m4 : (Int8.ofInt (-4)).toInt32 = (-4 : Int32) := by decide
theorem kb_m3 : (Int8.ofInt (-3)).toInt32 = (-3 : Int32) := by decide
theorem kb_m2 : (Int8.ofInt (-2)).toInt32 = (-2 : Int32) := by decide
theorem kb_6 : (Int8.ofInt (6)).toInt32 = nI 6 := by decide
theorem kb_7 : (Int8.ofInt (7)).toInt32 = nI 7 := by decide
theorem kb_8 : (Int8.ofInt (8)).toInt32 = nI 8 := by decide
theorem kb_9 : (Int8.ofInt (9)).toInt32 = nI 9 := by decide
theorem kb_10 : (Int8.ofInt (10)).toInt32 = nI 10 := by decide
theorem kb_15 : (Int8.ofInt (15)).toInt32 = nI 15 := by decide
theorem kb_16 : (Int8.ofInt (16)).toInt32 = nI 16 := by decide
theorem kb_18 : (Int8.ofInt (18)).toInt32 = nI 18 := by decide
theorem kb_19 : (Int8.ofInt (19)).toInt32 = nI 19 := by decide
theorem kb_24 : (Int8.ofInt (24)).toInt32 = nI 24 := by decide
theorem kb_33 : (Int8.ofInt (33)).toInt32 = nI 33 := by decide
theorem kb_42 : (Int8.ofInt (42)).toInt32 = nI 42 := by decide
theorem kb_43 : (Int8.ofInt (43)).toInt32 = nI 43 := by decide
theorem kb_46 : (Int8.ofInt (46)).toInt32 = nI 46 := by decide
theorem kb_48 : (Int8.ofInt (48)).toInt32 = nI 48 := by decide
theorem kb_49 : (Int8.ofInt (49)).toInt32 = nI 49 := by decide
theorem kb_53 : (Int8.ofInt (53)).toInt32 = nI 53 := by decide
theorem kb_57 : (Int8.ofInt (57)).toInt32 = nI 57 := by decide
theorem kb_59 : (Int8.ofInt (59)).toInt32 = nI 59 := by decide
theorem kb_60 : (Int8.ofInt (60)).toInt32 = nI 60 := by decide
theorem kb_61 : (Int8.ofInt (61)).toInt32 = nI 61 := by decide
theorem kb_63 : (Int8.ofInt (63)).toInt32 = nI 63 := by decide
theorem kb_64 : (Int8.ofInt (64)).toInt32 = nI 64 := by decide
theorem kb_65 : (Int8.ofInt (65)).toInt32 = nI 65 := by decide
theorem kb_72 : (Int8.ofInt (72)).toInt32 = nI 72 := by decide
theorem kb_74 : (Int8.ofInt (74)).toInt32 = nI 74 := by decide
theorem kb_75 : (Int8.ofInt (75)).toInt32 = nI 75 := by decide
theorem kb_89 : (Int8.ofInt (89)).toInt32 = nI 89 := by decide
theorem kb_90 : (Int8.ofInt (90)).toInt32 = nI 90 := by decide
theorem kb_99 : (Int8.ofInt (99)).toInt32 = nI 99 := by decide
theorem kb_100 : (Int8.ofInt (100)).toInt32 = nI 100 := by decide
theorem kb_120 : (Int8.ofInt (120)).toInt32 = nI 120 := by decide
theorem kb_126 : (Int8.ofInt (126)).toInt32 = nI 126 := by decide
theorem kc_m1 : Int32.ofInt (-1) = (-1 : Int32) := by decide
theorem kc_0 : Int32.ofInt (0) = nI 0 := by decide
theorem kc_1 : Int32.ofInt (1) = nI 1 := by decide
theorem kc_2 : Int32.ofInt (2) = nI 2 := by decide
theorem kc_3 : Int32.ofInt (3) = nI 3 := by decide
theorem kc_4 : Int32.ofInt (4) = nI 4 := by decide
theorem kc_5 : Int32.ofInt (5) = nI 5 := by decide
theorem ks_159 : (Int16.ofInt (159)).toInt32 = nI 159 := by decide
theorem ks_999 : (Int16.ofInt (999)).toInt32 = nI 999 := by decide
theorem ks_1000 : (Int16.ofInt (1000)).toInt32 = nI 1000 := by decide
theorem ks_9990 : (Int16.ofInt (9990)).toInt32 = nI 9990 := by decide
theorem ks_9999 : (Int16.ofInt (9999)).toInt32 = nI 9999 := by decide
