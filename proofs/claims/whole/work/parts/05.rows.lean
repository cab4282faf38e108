/-! the judgement: a state of the machine over the world, and what a method has at hand -/
abbrev dc_KX : Type := Program × Launch × Env × Room × State × MethodId × Array Value × List Frame × Method × Code × Nat × Nat × (State → Prop) × va_G × (Nat → ClassId) × (Nat → Nat) × (Nat → Prop) × Heap
def dc_X (κ : dc_KX) (pc : Nat) (ls : List (Option Value)) (st : List Value) (σ : dc_HP) : Prop := match κ with
  | (p, l, e, R, s, m, args, below, meth, c, cells, slots, Z, D, cA, ad, A, H0) => ∀ (H : Heap) (locs : List Loc) (la : Array Slot), va_P D dc_cl (dc_ws cA ad σ) H → va_S A H0 H locs → dc_LH ad la c.maxLocals ls → W p l e R s m args below meth c H locs cells slots Z (F0 m pc la (st.map (dc_cv ad)))
def dc_NW (U : State) : Prop := ∀ q ∈ dc_nest, va_Nw (.methodLinkNest q.1 q.2.1 q.2.2.1 q.2.2.2) U
def dc_Cx (κ : dc_KX) (own : String) (b : ByteArray) (nL fr lo : Nat) : Prop := match κ with
  | (p, l, e, R, s, m, args, below, meth, c, cells, slots, Z, D, cA, ad, A, H0) => p.tables.exec = Jvm.exec ∧ c.code = b ∧ c.maxLocals = nL ∧ s.vm.findClass own = some m.cls ∧ (∀ w ∈ dc_tb, w.before args s = true) ∧ dc_NW s ∧ va_K D dc_cl (dc_tys cA) s ∧ dc_ap ad A ∧ (fr ≤ R.frames ∧ lo ≤ R.locals ∧ cells ≤ R.cells ∧ slots ≤ R.slots)
abbrev dc_M : Type := String × ByteArray × MethodName × Nat × Option FieldType × Nat × Nat
def dc_rm (M : dc_M) : Room := { frames := M.2.2.2.2.2.1, cells := 0, slots := 0, locals := M.2.2.2.2.2.2 }
def dc_wsM (M : dc_M) : List Cond := .code M.2.2.1 M.2.1 M.2.2.2.1 M.2.2.2.2.1 :: dc_tb
def dc_Pc (D : va_G) (cA : Nat → ClassId) (ad : Nat → Nat) (σ : dc_HP) (av : List Value) : Array Value → State → Prop := va_Pc (av.map (dc_cv ad)) (fun U => va_P D dc_cl (dc_ws cA ad σ) U.heap ∧ va_K D dc_cl (dc_tys cA) U ∧ dc_NW U)
def dc_Qc (D : va_G) (cA : Nat → ClassId) (ad : Nat → Nat) (A : Nat → Prop) (Q : Option Value → dc_HP → Prop) : Array Value → State → Outcome → State → Prop := fun _ st o t => (∃ (r : Option Value) (σ' : dc_HP), o = .returned (r.map (dc_cv ad)) ∧ Q r σ' ∧ va_P D dc_cl (dc_ws cA ad σ') t.heap) ∧ va_F A st t
def dc_Ok (κ : dc_KX) (M : dc_M) (Q : Option Value → dc_HP → Prop) : Prop := dc_Cx κ M.1 M.2.1 M.2.2.2.1 M.2.2.2.2.2.1 M.2.2.2.2.2.2 ∧ match κ with
  | (p, l, e, R, s, m, args, below, meth, c, cells, slots, Z, D, cA, ad, A, H0) => meth.sig.returnType = M.2.2.2.2.1 ∧ meth.locks = false ∧ cells = 0 ∧ slots = 0 ∧ Z = MQ below (dc_Qc D cA ad A Q) args s 0 0 A ∧ H0 = s.heap
/-- a method begun over the world σ with the arguments av comes to its end, and Q holds there -/
def dc_G (M : dc_M) (av : List Value) (σ : dc_HP) (Q : Option Value → dc_HP → Prop) : Prop := ∀ κ, dc_Ok κ M Q → dc_X κ 0 (dc_pad M.2.2.2.1 av) [] σ
def dc_qi (q : Int32 → dc_HP → Prop) : Option Value → dc_HP → Prop := fun r σ' => ∃ x, r = some (.int x) ∧ q x σ'
def dc_ql (q : Int64 → dc_HP → Prop) : Option Value → dc_HP → Prop := fun r σ' => ∃ x, r = some (.long x) ∧ q x σ'
def dc_qv (q : dc_HP → Prop) : Option Value → dc_HP → Prop := fun r σ' => r = none ∧ q σ'
theorem dc_G.mono {M : dc_M} {av : List Value} {σ : dc_HP} {Q Q' : Option Value → dc_HP → Prop} (h : dc_G M av σ Q) (hq : ∀ r τ, Q r τ → Q' r τ) : dc_G M av σ Q' := by
  rintro ⟨p, l, e, R, s, m, args, below, meth, c, cells, slots, Z, D, cA, ad, A, H0⟩ ⟨⟨c1, c2, c3, c4, c5, c6, c7, c8, c9⟩, h1, h2, h3, h4, h5, h6⟩ H locs la hP hS hL
  subst h5
  have h9 := h (p, l, e, R, s, m, args, below, meth, c, cells, slots, MQ below (dc_Qc D cA ad A Q) args s 0 0 A, D, cA, ad, A, H0) ⟨⟨c1, c2, c3, c4, c5, c6, c7, c8, c9⟩, h1, h2, h3, h4, rfl, h6⟩ H locs la hP hS hL
  intro T hT X
  obtain ⟨t, a, o, b1, b2, ⟨⟨r, σ', c1, c2, c3⟩, c4⟩, b4⟩ := h9 T hT X
  exact ⟨t, a, o, b1, b2, ⟨⟨r, σ', c1, hq r σ' c2, c3⟩, c4⟩, b4⟩
theorem dc_tb_good : ∀ w ∈ dc_tb, (w.onTables && w.keeps) = true ∨ ∃ ty, w = .arrayClass ty := fun w h => good_of_word (List.mem_filter.mp h).2
theorem dc_goodIn (M : dc_M) (hc : Cond.code M.2.2.1 M.2.1 M.2.2.2.1 M.2.2.2.2.1 ∈ dc_tb) : GoodIn dc_tb (dc_wsM M) := by
  intro w hw
  rcases List.mem_cons.mp hw with rfl | h
  · exact ⟨hc, dc_tb_good _ hc⟩
  · exact ⟨h, dc_tb_good _ h⟩
theorem dc_met {M : dc_M} {av : List Value} {σ : dc_HP} {Q : Option Value → dc_HP → Prop} (h : dc_G M av σ Q) (hy : plainName M.2.2.1.cls = true) (hown : M.2.2.1.cls = M.1) (hlen : (lg_sl (av.map (dc_cv (fun q => q)))).length ≤ M.2.2.2.1) (l : Launch) {D : va_G} {cA : Nat → ClassId} {ad : Nat → Nat} {A : Nat → Prop} (hap : dc_ap ad A) :
    Met l M.2.2.1 (dc_wsM M) (dc_rm M) (dc_Pc D cA ad σ av) (dc_Qc D cA ad A Q) 0 0 A := by
  refine Met.ofW (cc := M.2.1) (maxL := M.2.2.2.1) (ret := M.2.2.2.2.1) hy rfl ?_
  intro p e s m args below meth c s₁ B hml hv
  obtain ⟨rfl, hP, hK, hN⟩ := hv
  have hts := atoms_spec (ws := dc_wsM M) B.pre
  have hfc : s.vm.findClass M.1 = some m.cls := by rw [← hown]; exact findClass_of_methodNamed B.named
  have key := h (p, l, e, dc_rm M, s, m, (av.map (dc_cv ad)).toArray, below, meth, c, 0, 0, MQ below (dc_Qc D cA ad A Q) (av.map (dc_cv ad)).toArray s 0 0 A, D, cA, ad, A, s.heap)
    ⟨⟨B.exec, B.bytes, hml, hfc, fun w hw => hts w (List.mem_cons_of_mem _ hw), hN, hK, hap, Nat.le_refl _, Nat.le_refl _, Nat.le_refl _, Nat.le_refl _⟩, B.returns, B.notSynchronized, rfl, rfl, rfl, rfl⟩
  have hsl : ∀ (f g : Nat → Nat) (vs : List Value), (lg_sl (vs.map (dc_cv f))).length = (lg_sl (vs.map (dc_cv g))).length := by
    intro f g vs
    induction vs with
    | nil => rfl
    | cons a r ih =>
      simp only [lg_sl, List.map_cons, List.flatMap_cons, List.length_append, dc_cv_cat] at ih ⊢
      rw [ih]
      split <;> rfl
  have hle : (lg_sl (av.map (dc_cv ad))).length ≤ M.2.2.2.1 := by rw [hsl ad (fun q => q)]; exact hlen
  have hl := lv_entry (av.map (dc_cv ad)) (n := M.2.2.2.1) hle
  rw [lg_entry_eq]
  generalize (lg_sl (av.map (dc_cv ad)) ++ List.replicate (M.2.2.2.1 - (lg_sl (av.map (dc_cv ad))).length) Slot.unset).toArray = la at hl ⊢
  refine key s.heap [] la hP va_S.rf ⟨?_, hl.2.1, fun i v hv => ?_⟩
  · rw [hml]; exact hl.1
  · have h1 := dc_ini_get ad av 0 i v (dc_pad_get hv)
    rw [Nat.zero_add] at h1
    exact hl.2.2 _ h1
section DX
variable {κ : dc_KX} {own : String} {b : ByteArray} {nL fr lo pc : Nat} {ls : List (Option Value)} {st : List Value} {σ : dc_HP}
theorem dx_iconst (hC : dc_Cx κ own b nL fr lo) {n : Int} {v : Int32} (hd : decode b pc = .ok (.iconst n, 1)) (hv : Int32.ofInt n = v) (k : dc_X κ (pc + 1) ls (.int v :: st) σ) : dc_X κ pc ls st σ := by
  obtain ⟨p, l, e, R, s, m, args, below, meth, c, cells, slots, Z, D, cA, ad, A, H0⟩ := κ
  obtain ⟨hx, hb, hml, hown, hts, hnw, hK, hap, hR⟩ := hC
  intro H locs la hP hS hL
  exact lv_iconst hx hb hd hv (k H locs la hP hS hL)
theorem dx_bipush (hC : dc_Cx κ own b nL fr lo) {n : Int} {v : Int32} (hd : decode b pc = .ok (.bipush n, 2)) (hv : (Int8.ofInt n).toInt32 = v) (k : dc_X κ (pc + 2) ls (.int v :: st) σ) : dc_X κ pc ls st σ := by
  obtain ⟨p, l, e, R, s, m, args, below, meth, c, cells, slots, Z, D, cA, ad, A, H0⟩ := κ
  obtain ⟨hx, hb, hml, hown, hts, hnw, hK, hap, hR⟩ := hC
  intro H locs la hP hS hL
  exact lv_bipush hx hb hd hv (k H locs la hP hS hL)
theorem dx_sipush (hC : dc_Cx κ own b nL fr lo) {n : Int} {v : Int32} (hd : decode b pc = .ok (.sipush n, 3)) (hv : (Int16.ofInt n).toInt32 = v) (k : dc_X κ (pc + 3) ls (.int v :: st) σ) : dc_X κ pc ls st σ := by
  obtain ⟨p, l, e, R, s, m, args, below, meth, c, cells, slots, Z, D, cA, ad, A, H0⟩ := κ
  obtain ⟨hx, hb, hml, hown, hts, hnw, hK, hap, hR⟩ := hC
  intro H locs la hP hS hL
  exact lv_sipush hx hb hd hv (k H locs la hP hS hL)
theorem dx_lconst (hC : dc_Cx κ own b nL fr lo) {n : Fin 2} {v : Int64} (hd : decode b pc = .ok (.lconst n, 1)) (hv : Int64.ofNat (n : Nat) = v) (k : dc_X κ (pc + 1) ls (.long v :: st) σ) : dc_X κ pc ls st σ := by
  obtain ⟨p, l, e, R, s, m, args, below, meth, c, cells, slots, Z, D, cA, ad, A, H0⟩ := κ
  obtain ⟨hx, hb, hml, hown, hts, hnw, hK, hap, hR⟩ := hC
  intro H locs la hP hS hL
  exact lv_lconst hx hb hd hv (k H locs la hP hS hL)
theorem dx_ldc (hC : dc_Cx κ own b nL fr lo) {index : Nat} {v : Int32} (hd : decode b pc = .ok (.ldc index, 2)) (hw : Cond.constant own index v ∈ dc_tb) (k : dc_X κ (pc + 2) ls (.int v :: st) σ) : dc_X κ pc ls st σ := by
  obtain ⟨p, l, e, R, s, m, args, below, meth, c, cells, slots, Z, D, cA, ad, A, H0⟩ := κ
  obtain ⟨hx, hb, hml, hown, hts, hnw, hK, hap, hR⟩ := hC
  intro H locs la hP hS hL
  exact lv_ldc hx hb hown (hts _ hw) hd (k H locs la hP hS hL)
theorem dx_ldcw (hC : dc_Cx κ own b nL fr lo) {index : Nat} {v : Int32} (hd : decode b pc = .ok (.ldc_w index, 3)) (hw : Cond.constant own index v ∈ dc_tb) (k : dc_X κ (pc + 3) ls (.int v :: st) σ) : dc_X κ pc ls st σ := by
  obtain ⟨p, l, e, R, s, m, args, below, meth, c, cells, slots, Z, D, cA, ad, A, H0⟩ := κ
  obtain ⟨hx, hb, hml, hown, hts, hnw, hK, hap, hR⟩ := hC
  intro H locs la hP hS hL
  exact lv_ldcw hx hb hown (hts _ hw) hd (k H locs la hP hS hL)
theorem dx_ldc2 (hC : dc_Cx κ own b nL fr lo) {index : Nat} {v : Int64} (hd : decode b pc = .ok (.ldc2_w index, 3)) (hw : Cond.constantLong own index v ∈ dc_tb) (k : dc_X κ (pc + 3) ls (.long v :: st) σ) : dc_X κ pc ls st σ := by
  obtain ⟨p, l, e, R, s, m, args, below, meth, c, cells, slots, Z, D, cA, ad, A, H0⟩ := κ
  obtain ⟨hx, hb, hml, hown, hts, hnw, hK, hap, hR⟩ := hC
  intro H locs la hP hS hL
  exact lv_ldc2 hx hb hown (hts _ hw) hd (k H locs la hP hS hL)
theorem dx_iload_n (hC : dc_Cx κ own b nL fr lo) {j : Fin 4} {x : Int32} (hd : decode b pc = .ok (.iload_n j, 1)) (hl : ls[(j : Nat)]? = some (some (.int x))) (k : dc_X κ (pc + 1) ls (.int x :: st) σ) : dc_X κ pc ls st σ := by
  obtain ⟨p, l, e, R, s, m, args, below, meth, c, cells, slots, Z, D, cA, ad, A, H0⟩ := κ
  obtain ⟨hx, hb, hml, hown, hts, hnw, hK, hap, hR⟩ := hC
  intro H locs la hP hS hL
  exact lv_iload_n hx hb hd rfl (hL.2.2 _ _ hl) (k H locs la hP hS hL)
theorem dx_iload (hC : dc_Cx κ own b nL fr lo) {j : Nat} {x : Int32} (hd : decode b pc = .ok (.iload j, 2)) (hl : ls[j]? = some (some (.int x))) (k : dc_X κ (pc + 2) ls (.int x :: st) σ) : dc_X κ pc ls st σ := by
  obtain ⟨p, l, e, R, s, m, args, below, meth, c, cells, slots, Z, D, cA, ad, A, H0⟩ := κ
  obtain ⟨hx, hb, hml, hown, hts, hnw, hK, hap, hR⟩ := hC
  intro H locs la hP hS hL
  exact lv_iload hx hb hd (hL.2.2 _ _ hl) (k H locs la hP hS hL)
theorem dx_lload_n (hC : dc_Cx κ own b nL fr lo) {j : Fin 4} {x : Int64} (hd : decode b pc = .ok (.lload_n j, 1)) (hl : ls[(j : Nat)]? = some (some (.long x))) (k : dc_X κ (pc + 1) ls (.long x :: st) σ) : dc_X κ pc ls st σ := by
  obtain ⟨p, l, e, R, s, m, args, below, meth, c, cells, slots, Z, D, cA, ad, A, H0⟩ := κ
  obtain ⟨hx, hb, hml, hown, hts, hnw, hK, hap, hR⟩ := hC
  intro H locs la hP hS hL
  exact lv_lload_n hx hb hd rfl (hL.2.2 _ _ hl) (k H locs la hP hS hL)
theorem dx_lload (hC : dc_Cx κ own b nL fr lo) {j : Nat} {x : Int64} (hd : decode b pc = .ok (.lload j, 2)) (hl : ls[j]? = some (some (.long x))) (k : dc_X κ (pc + 2) ls (.long x :: st) σ) : dc_X κ pc ls st σ := by
  obtain ⟨p, l, e, R, s, m, args, below, meth, c, cells, slots, Z, D, cA, ad, A, H0⟩ := κ
  obtain ⟨hx, hb, hml, hown, hts, hnw, hK, hap, hR⟩ := hC
  intro H locs la hP hS hL
  exact lv_lload hx hb hd (hL.2.2 _ _ hl) (k H locs la hP hS hL)
theorem dx_aload_n (hC : dc_Cx κ own b nL fr lo) {j : Fin 4} {x : Nat} (hd : decode b pc = .ok (.aload_n j, 1)) (hl : ls[(j : Nat)]? = some (some (.ref x))) (k : dc_X κ (pc + 1) ls (.ref x :: st) σ) : dc_X κ pc ls st σ := by
  obtain ⟨p, l, e, R, s, m, args, below, meth, c, cells, slots, Z, D, cA, ad, A, H0⟩ := κ
  obtain ⟨hx, hb, hml, hown, hts, hnw, hK, hap, hR⟩ := hC
  intro H locs la hP hS hL
  exact lv_aload_n hx hb hd rfl (hL.2.2 _ _ hl) (k H locs la hP hS hL)
theorem dx_aload (hC : dc_Cx κ own b nL fr lo) {j : Nat} {x : Nat} (hd : decode b pc = .ok (.aload j, 2)) (hl : ls[j]? = some (some (.ref x))) (k : dc_X κ (pc + 2) ls (.ref x :: st) σ) : dc_X κ pc ls st σ := by
  obtain ⟨p, l, e, R, s, m, args, below, meth, c, cells, slots, Z, D, cA, ad, A, H0⟩ := κ
  obtain ⟨hx, hb, hml, hown, hts, hnw, hK, hap, hR⟩ := hC
  intro H locs la hP hS hL
  exact lv_aload hx hb hd (hL.2.2 _ _ hl) (k H locs la hP hS hL)
theorem dx_istore_n (hC : dc_Cx κ own b nL fr lo) {j : Fin 4} {x : Int32} {ls' : List (Option Value)} (hd : decode b pc = .ok (.istore_n j, 1)) (hn : (j : Nat) < nL) (hl : dc_st1 ls (j : Nat) (.int x) = ls') (k : dc_X κ (pc + 1) ls' st σ) : dc_X κ pc ls (.int x :: st) σ := by
  obtain ⟨p, l, e, R, s, m, args, below, meth, c, cells, slots, Z, D, cA, ad, A, H0⟩ := κ
  obtain ⟨hx, hb, hml, hown, hts, hnw, hK, hap, hR⟩ := hC
  intro H locs la hP hS hL
  subst hl
  exact lv_istore_n hx hb hd rfl hL.has (by rw [hml]; exact hn) rfl (fun la' hL' => k H locs la' hP hS (dc_LH.st1 (v := .int x) hL'))
theorem dx_istore (hC : dc_Cx κ own b nL fr lo) {j : Nat} {x : Int32} {ls' : List (Option Value)} (hd : decode b pc = .ok (.istore j, 2)) (hn : j < nL) (hl : dc_st1 ls j (.int x) = ls') (k : dc_X κ (pc + 2) ls' st σ) : dc_X κ pc ls (.int x :: st) σ := by
  obtain ⟨p, l, e, R, s, m, args, below, meth, c, cells, slots, Z, D, cA, ad, A, H0⟩ := κ
  obtain ⟨hx, hb, hml, hown, hts, hnw, hK, hap, hR⟩ := hC
  intro H locs la hP hS hL
  subst hl
  exact lv_istore hx hb hd hL.has (by rw [hml]; exact hn) rfl (fun la' hL' => k H locs la' hP hS (dc_LH.st1 (v := .int x) hL'))
theorem dx_lstore_n (hC : dc_Cx κ own b nL fr lo) {j : Fin 4} {x : Int64} {ls' : List (Option Value)} (hd : decode b pc = .ok (.lstore_n j, 1)) (hn : (j : Nat) + 1 < nL) (hl : dc_st2 ls (j : Nat) (.long x) = ls') (k : dc_X κ (pc + 1) ls' st σ) : dc_X κ pc ls (.long x :: st) σ := by
  obtain ⟨p, l, e, R, s, m, args, below, meth, c, cells, slots, Z, D, cA, ad, A, H0⟩ := κ
  obtain ⟨hx, hb, hml, hown, hts, hnw, hK, hap, hR⟩ := hC
  intro H locs la hP hS hL
  subst hl
  exact lv_lstore_n hx hb hd rfl hL.has (by rw [hml]; exact hn) rfl (fun la' hL' => k H locs la' hP hS (dc_LH.st2 (v := .long x) hL'))
theorem dx_lstore (hC : dc_Cx κ own b nL fr lo) {j : Nat} {x : Int64} {ls' : List (Option Value)} (hd : decode b pc = .ok (.lstore j, 2)) (hn : j + 1 < nL) (hl : dc_st2 ls j (.long x) = ls') (k : dc_X κ (pc + 2) ls' st σ) : dc_X κ pc ls (.long x :: st) σ := by
  obtain ⟨p, l, e, R, s, m, args, below, meth, c, cells, slots, Z, D, cA, ad, A, H0⟩ := κ
  obtain ⟨hx, hb, hml, hown, hts, hnw, hK, hap, hR⟩ := hC
  intro H locs la hP hS hL
  subst hl
  exact lv_lstore hx hb hd hL.has (by rw [hml]; exact hn) rfl (fun la' hL' => k H locs la' hP hS (dc_LH.st2 (v := .long x) hL'))
theorem dx_astore_n (hC : dc_Cx κ own b nL fr lo) {j : Fin 4} {x : Nat} {ls' : List (Option Value)} (hd : decode b pc = .ok (.astore_n j, 1)) (hn : (j : Nat) < nL) (hl : dc_st1 ls (j : Nat) (.ref x) = ls') (k : dc_X κ (pc + 1) ls' st σ) : dc_X κ pc ls (.ref x :: st) σ := by
  obtain ⟨p, l, e, R, s, m, args, below, meth, c, cells, slots, Z, D, cA, ad, A, H0⟩ := κ
  obtain ⟨hx, hb, hml, hown, hts, hnw, hK, hap, hR⟩ := hC
  intro H locs la hP hS hL
  subst hl
  exact lv_astore_n hx hb hd rfl hL.has (by rw [hml]; exact hn) rfl (fun la' hL' => k H locs la' hP hS (dc_LH.st1 (v := .ref x) hL'))
theorem dx_astore (hC : dc_Cx κ own b nL fr lo) {j : Nat} {x : Nat} {ls' : List (Option Value)} (hd : decode b pc = .ok (.astore j, 2)) (hn : j < nL) (hl : dc_st1 ls j (.ref x) = ls') (k : dc_X κ (pc + 2) ls' st σ) : dc_X κ pc ls (.ref x :: st) σ := by
  obtain ⟨p, l, e, R, s, m, args, below, meth, c, cells, slots, Z, D, cA, ad, A, H0⟩ := κ
  obtain ⟨hx, hb, hml, hown, hts, hnw, hK, hap, hR⟩ := hC
  intro H locs la hP hS hL
  subst hl
  exact lv_astore hx hb hd hL.has (by rw [hml]; exact hn) rfl (fun la' hL' => k H locs la' hP hS (dc_LH.st1 (v := .ref x) hL'))
theorem dx_iinc (hC : dc_Cx κ own b nL fr lo) {j : Nat} {n : Int} {x v : Int32} {ls' : List (Option Value)} (hd : decode b pc = .ok (.iinc j n, 3)) (hg : ls[j]? = some (some (.int x))) (hv : x + Int32.ofInt n = v) (hn : j < nL) (hl : dc_st1 ls j (.int v) = ls') (k : dc_X κ (pc + 3) ls' st σ) : dc_X κ pc ls st σ := by
  obtain ⟨p, l, e, R, s, m, args, below, meth, c, cells, slots, Z, D, cA, ad, A, H0⟩ := κ
  obtain ⟨hx, hb, hml, hown, hts, hnw, hK, hap, hR⟩ := hC
  intro H locs la hP hS hL
  subst hl
  have hm : (j, Value.int x) ∈ dc_loc ad ls := dc_loc_mem.mpr ⟨.int x, hg, rfl⟩
  obtain ⟨i0, hi0⟩ := List.getElem?_of_mem hm
  exact lv_iinc hx hb hd hL.has hi0 hv (by rw [hml]; exact hn) rfl (fun la' hL' => k H locs la' hP hS (dc_LH.st1 (v := .int v) hL'))
theorem dx_iadd (hC : dc_Cx κ own b nL fr lo) {x y : Int32} (hd : decode b pc = .ok (.iadd, 1)) (k : dc_X κ (pc + 1) ls (.int (x + y) :: st) σ) : dc_X κ pc ls (.int y :: .int x :: st) σ := by
  obtain ⟨p, l, e, R, s, m, args, below, meth, c, cells, slots, Z, D, cA, ad, A, H0⟩ := κ
  obtain ⟨hx, hb, hml, hown, hts, hnw, hK, hap, hR⟩ := hC
  intro H locs la hP hS hL
  exact lv_iadd hx hb hd (k H locs la hP hS hL)
theorem dx_isub (hC : dc_Cx κ own b nL fr lo) {x y : Int32} (hd : decode b pc = .ok (.isub, 1)) (k : dc_X κ (pc + 1) ls (.int (x - y) :: st) σ) : dc_X κ pc ls (.int y :: .int x :: st) σ := by
  obtain ⟨p, l, e, R, s, m, args, below, meth, c, cells, slots, Z, D, cA, ad, A, H0⟩ := κ
  obtain ⟨hx, hb, hml, hown, hts, hnw, hK, hap, hR⟩ := hC
  intro H locs la hP hS hL
  exact lv_isub hx hb hd (k H locs la hP hS hL)
theorem dx_imul (hC : dc_Cx κ own b nL fr lo) {x y : Int32} (hd : decode b pc = .ok (.imul, 1)) (k : dc_X κ (pc + 1) ls (.int (x * y) :: st) σ) : dc_X κ pc ls (.int y :: .int x :: st) σ := by
  obtain ⟨p, l, e, R, s, m, args, below, meth, c, cells, slots, Z, D, cA, ad, A, H0⟩ := κ
  obtain ⟨hx, hb, hml, hown, hts, hnw, hK, hap, hR⟩ := hC
  intro H locs la hP hS hL
  exact lv_imul hx hb hd (k H locs la hP hS hL)
theorem dx_iand (hC : dc_Cx κ own b nL fr lo) {x y : Int32} (hd : decode b pc = .ok (.iand, 1)) (k : dc_X κ (pc + 1) ls (.int (x &&& y) :: st) σ) : dc_X κ pc ls (.int y :: .int x :: st) σ := by
  obtain ⟨p, l, e, R, s, m, args, below, meth, c, cells, slots, Z, D, cA, ad, A, H0⟩ := κ
  obtain ⟨hx, hb, hml, hown, hts, hnw, hK, hap, hR⟩ := hC
  intro H locs la hP hS hL
  exact lv_iand hx hb hd (k H locs la hP hS hL)
theorem dx_ior (hC : dc_Cx κ own b nL fr lo) {x y : Int32} (hd : decode b pc = .ok (.ior, 1)) (k : dc_X κ (pc + 1) ls (.int (x ||| y) :: st) σ) : dc_X κ pc ls (.int y :: .int x :: st) σ := by
  obtain ⟨p, l, e, R, s, m, args, below, meth, c, cells, slots, Z, D, cA, ad, A, H0⟩ := κ
  obtain ⟨hx, hb, hml, hown, hts, hnw, hK, hap, hR⟩ := hC
  intro H locs la hP hS hL
  exact lv_ior hx hb hd (k H locs la hP hS hL)
theorem dx_ixor (hC : dc_Cx κ own b nL fr lo) {x y : Int32} (hd : decode b pc = .ok (.ixor, 1)) (k : dc_X κ (pc + 1) ls (.int (x ^^^ y) :: st) σ) : dc_X κ pc ls (.int y :: .int x :: st) σ := by
  obtain ⟨p, l, e, R, s, m, args, below, meth, c, cells, slots, Z, D, cA, ad, A, H0⟩ := κ
  obtain ⟨hx, hb, hml, hown, hts, hnw, hK, hap, hR⟩ := hC
  intro H locs la hP hS hL
  exact lv_ixor hx hb hd (k H locs la hP hS hL)
theorem dx_ishl (hC : dc_Cx κ own b nL fr lo) {x y : Int32} (hd : decode b pc = .ok (.ishl, 1)) (k : dc_X κ (pc + 1) ls (.int (x <<< (y &&& 31)) :: st) σ) : dc_X κ pc ls (.int y :: .int x :: st) σ := by
  obtain ⟨p, l, e, R, s, m, args, below, meth, c, cells, slots, Z, D, cA, ad, A, H0⟩ := κ
  obtain ⟨hx, hb, hml, hown, hts, hnw, hK, hap, hR⟩ := hC
  intro H locs la hP hS hL
  exact lv_ishl hx hb hd (k H locs la hP hS hL)
theorem dx_ishr (hC : dc_Cx κ own b nL fr lo) {x y : Int32} (hd : decode b pc = .ok (.ishr, 1)) (k : dc_X κ (pc + 1) ls (.int (x >>> (y &&& 31)) :: st) σ) : dc_X κ pc ls (.int y :: .int x :: st) σ := by
  obtain ⟨p, l, e, R, s, m, args, below, meth, c, cells, slots, Z, D, cA, ad, A, H0⟩ := κ
  obtain ⟨hx, hb, hml, hown, hts, hnw, hK, hap, hR⟩ := hC
  intro H locs la hP hS hL
  exact lv_ishr hx hb hd (k H locs la hP hS hL)
theorem dx_iushr (hC : dc_Cx κ own b nL fr lo) {x y : Int32} (hd : decode b pc = .ok (.iushr, 1)) (k : dc_X κ (pc + 1) ls (.int ((x.toUInt32 >>> (y.toUInt32 &&& Int32.toUInt32 31)).toInt32) :: st) σ) : dc_X κ pc ls (.int y :: .int x :: st) σ := by
  obtain ⟨p, l, e, R, s, m, args, below, meth, c, cells, slots, Z, D, cA, ad, A, H0⟩ := κ
  obtain ⟨hx, hb, hml, hown, hts, hnw, hK, hap, hR⟩ := hC
  intro H locs la hP hS hL
  exact lv_iushr hx hb hd rfl (k H locs la hP hS hL)
theorem dx_idiv (hC : dc_Cx κ own b nL fr lo) {x y : Int32} (hd : decode b pc = .ok (.idiv, 1)) (hne : ¬ y = 0) (k : dc_X κ (pc + 1) ls (.int (x / y) :: st) σ) : dc_X κ pc ls (.int y :: .int x :: st) σ := by
  obtain ⟨p, l, e, R, s, m, args, below, meth, c, cells, slots, Z, D, cA, ad, A, H0⟩ := κ
  obtain ⟨hx, hb, hml, hown, hts, hnw, hK, hap, hR⟩ := hC
  intro H locs la hP hS hL
  exact lv_idiv hx hb hd hne (k H locs la hP hS hL)
theorem dx_irem (hC : dc_Cx κ own b nL fr lo) {x y : Int32} (hd : decode b pc = .ok (.irem, 1)) (hne : ¬ y = 0) (k : dc_X κ (pc + 1) ls (.int (x - x / y * y) :: st) σ) : dc_X κ pc ls (.int y :: .int x :: st) σ := by
  obtain ⟨p, l, e, R, s, m, args, below, meth, c, cells, slots, Z, D, cA, ad, A, H0⟩ := κ
  obtain ⟨hx, hb, hml, hown, hts, hnw, hK, hap, hR⟩ := hC
  intro H locs la hP hS hL
  exact lv_irem hx hb hd hne (k H locs la hP hS hL)
theorem dx_ineg (hC : dc_Cx κ own b nL fr lo) {x : Int32} (hd : decode b pc = .ok (.ineg, 1)) (k : dc_X κ (pc + 1) ls (.int (-x) :: st) σ) : dc_X κ pc ls (.int x :: st) σ := by
  obtain ⟨p, l, e, R, s, m, args, below, meth, c, cells, slots, Z, D, cA, ad, A, H0⟩ := κ
  obtain ⟨hx, hb, hml, hown, hts, hnw, hK, hap, hR⟩ := hC
  intro H locs la hP hS hL
  exact lv_ineg hx hb hd (k H locs la hP hS hL)
theorem dx_ladd (hC : dc_Cx κ own b nL fr lo) {x y : Int64} (hd : decode b pc = .ok (.ladd, 1)) (k : dc_X κ (pc + 1) ls (.long (x + y) :: st) σ) : dc_X κ pc ls (.long y :: .long x :: st) σ := by
  obtain ⟨p, l, e, R, s, m, args, below, meth, c, cells, slots, Z, D, cA, ad, A, H0⟩ := κ
  obtain ⟨hx, hb, hml, hown, hts, hnw, hK, hap, hR⟩ := hC
  intro H locs la hP hS hL
  exact lv_ladd hx hb hd (k H locs la hP hS hL)
theorem dx_lsub (hC : dc_Cx κ own b nL fr lo) {x y : Int64} (hd : decode b pc = .ok (.lsub, 1)) (k : dc_X κ (pc + 1) ls (.long (x - y) :: st) σ) : dc_X κ pc ls (.long y :: .long x :: st) σ := by
  obtain ⟨p, l, e, R, s, m, args, below, meth, c, cells, slots, Z, D, cA, ad, A, H0⟩ := κ
  obtain ⟨hx, hb, hml, hown, hts, hnw, hK, hap, hR⟩ := hC
  intro H locs la hP hS hL
  exact lv_lsub hx hb hd (k H locs la hP hS hL)
theorem dx_lmul (hC : dc_Cx κ own b nL fr lo) {x y : Int64} (hd : decode b pc = .ok (.lmul, 1)) (k : dc_X κ (pc + 1) ls (.long (x * y) :: st) σ) : dc_X κ pc ls (.long y :: .long x :: st) σ := by
  obtain ⟨p, l, e, R, s, m, args, below, meth, c, cells, slots, Z, D, cA, ad, A, H0⟩ := κ
  obtain ⟨hx, hb, hml, hown, hts, hnw, hK, hap, hR⟩ := hC
  intro H locs la hP hS hL
  exact lv_lmul hx hb hd (k H locs la hP hS hL)
theorem dx_ldiv (hC : dc_Cx κ own b nL fr lo) {x y : Int64} (hd : decode b pc = .ok (.ldiv, 1)) (hne : ¬ y = 0) (k : dc_X κ (pc + 1) ls (.long (x / y) :: st) σ) : dc_X κ pc ls (.long y :: .long x :: st) σ := by
  obtain ⟨p, l, e, R, s, m, args, below, meth, c, cells, slots, Z, D, cA, ad, A, H0⟩ := κ
  obtain ⟨hx, hb, hml, hown, hts, hnw, hK, hap, hR⟩ := hC
  intro H locs la hP hS hL
  exact lv_ldiv hx hb hd hne (k H locs la hP hS hL)
theorem dx_lrem (hC : dc_Cx κ own b nL fr lo) {x y : Int64} (hd : decode b pc = .ok (.lrem, 1)) (hne : ¬ y = 0) (k : dc_X κ (pc + 1) ls (.long (x - x / y * y) :: st) σ) : dc_X κ pc ls (.long y :: .long x :: st) σ := by
  obtain ⟨p, l, e, R, s, m, args, below, meth, c, cells, slots, Z, D, cA, ad, A, H0⟩ := κ
  obtain ⟨hx, hb, hml, hown, hts, hnw, hK, hap, hR⟩ := hC
  intro H locs la hP hS hL
  exact lv_lrem hx hb hd hne (k H locs la hP hS hL)
theorem dx_lneg (hC : dc_Cx κ own b nL fr lo) {x : Int64} (hd : decode b pc = .ok (.lneg, 1)) (k : dc_X κ (pc + 1) ls (.long (-x) :: st) σ) : dc_X κ pc ls (.long x :: st) σ := by
  obtain ⟨p, l, e, R, s, m, args, below, meth, c, cells, slots, Z, D, cA, ad, A, H0⟩ := κ
  obtain ⟨hx, hb, hml, hown, hts, hnw, hK, hap, hR⟩ := hC
  intro H locs la hP hS hL
  exact lv_lneg hx hb hd (k H locs la hP hS hL)
theorem dx_lcmp (hC : dc_Cx κ own b nL fr lo) {x y : Int64} (hd : decode b pc = .ok (.lcmp, 1)) (k : dc_X κ (pc + 1) ls (.int (lg_cmp x y) :: st) σ) : dc_X κ pc ls (.long y :: .long x :: st) σ := by
  obtain ⟨p, l, e, R, s, m, args, below, meth, c, cells, slots, Z, D, cA, ad, A, H0⟩ := κ
  obtain ⟨hx, hb, hml, hown, hts, hnw, hK, hap, hR⟩ := hC
  intro H locs la hP hS hL
  exact W.lcmp hx hb hd (k H locs la hP hS hL)
theorem dx_i2l (hC : dc_Cx κ own b nL fr lo) {x : Int32} (hd : decode b pc = .ok (.i2l, 1)) (k : dc_X κ (pc + 1) ls (.long x.toInt64 :: st) σ) : dc_X κ pc ls (.int x :: st) σ := by
  obtain ⟨p, l, e, R, s, m, args, below, meth, c, cells, slots, Z, D, cA, ad, A, H0⟩ := κ
  obtain ⟨hx, hb, hml, hown, hts, hnw, hK, hap, hR⟩ := hC
  intro H locs la hP hS hL
  exact lv_i2l hx hb hd rfl (k H locs la hP hS hL)
theorem dx_l2i (hC : dc_Cx κ own b nL fr lo) {x : Int64} (hd : decode b pc = .ok (.l2i, 1)) (k : dc_X κ (pc + 1) ls (.int x.toInt32 :: st) σ) : dc_X κ pc ls (.long x :: st) σ := by
  obtain ⟨p, l, e, R, s, m, args, below, meth, c, cells, slots, Z, D, cA, ad, A, H0⟩ := κ
  obtain ⟨hx, hb, hml, hown, hts, hnw, hK, hap, hR⟩ := hC
  intro H locs la hP hS hL
  exact lv_l2i hx hb hd rfl (k H locs la hP hS hL)
theorem dx_dup (hC : dc_Cx κ own b nL fr lo) {v : Value} (hd : decode b pc = .ok (.dup, 1)) (hv : v.category = 1) (k : dc_X κ (pc + 1) ls (v :: v :: st) σ) : dc_X κ pc ls (v :: st) σ := by
  obtain ⟨p, l, e, R, s, m, args, below, meth, c, cells, slots, Z, D, cA, ad, A, H0⟩ := κ
  obtain ⟨hx, hb, hml, hown, hts, hnw, hK, hap, hR⟩ := hC
  intro H locs la hP hS hL
  exact lv_dup hx hb hd ((dc_cv_cat ad v).trans hv) (k H locs la hP hS hL)
theorem dx_pop (hC : dc_Cx κ own b nL fr lo) {v : Value} (hd : decode b pc = .ok (.pop, 1)) (hv : v.category = 1) (k : dc_X κ (pc + 1) ls st σ) : dc_X κ pc ls (v :: st) σ := by
  obtain ⟨p, l, e, R, s, m, args, below, meth, c, cells, slots, Z, D, cA, ad, A, H0⟩ := κ
  obtain ⟨hx, hb, hml, hown, hts, hnw, hK, hap, hR⟩ := hC
  intro H locs la hP hS hL
  exact lv_pop hx hb hd ((dc_cv_cat ad v).trans hv) (k H locs la hP hS hL)
theorem dx_dup2 (hC : dc_Cx κ own b nL fr lo) {v w : Value} (hd : decode b pc = .ok (.dup2, 1)) (hv : v.category = 1) (hw : w.category = 1) (k : dc_X κ (pc + 1) ls (v :: w :: v :: w :: st) σ) : dc_X κ pc ls (v :: w :: st) σ := by
  obtain ⟨p, l, e, R, s, m, args, below, meth, c, cells, slots, Z, D, cA, ad, A, H0⟩ := κ
  obtain ⟨hx, hb, hml, hown, hts, hnw, hK, hap, hR⟩ := hC
  intro H locs la hP hS hL
  exact lv_dup2_11 hx hb hd ((dc_cv_cat ad v).trans hv) ((dc_cv_cat ad w).trans hw) (k H locs la hP hS hL)
theorem dx_if_eq (hC : dc_Cx κ own b nL fr lo) {x : Int32} {off : Int} {tgt : Nat} (hd : decode b pc = .ok (.ifCond .eq off, 3)) (ht : (pc : Int) + off = (tgt : Int)) (kt : x = 0 → dc_X κ tgt ls st σ) (kf : ¬ x = 0 → dc_X κ (pc + 3) ls st σ) : dc_X κ pc ls (.int x :: st) σ := by
  obtain ⟨p, l, e, R, s, m, args, below, meth, c, cells, slots, Z, D, cA, ad, A, H0⟩ := κ
  obtain ⟨hx, hb, hml, hown, hts, hnw, hK, hap, hR⟩ := hC
  intro H locs la hP hS hL
  exact lv_if_eq hx hb hd ht (fun q => kt q H locs la hP hS hL) (fun q => kf q H locs la hP hS hL)
theorem dx_if_ne (hC : dc_Cx κ own b nL fr lo) {x : Int32} {off : Int} {tgt : Nat} (hd : decode b pc = .ok (.ifCond .ne off, 3)) (ht : (pc : Int) + off = (tgt : Int)) (kt : ¬ x = 0 → dc_X κ tgt ls st σ) (kf : x = 0 → dc_X κ (pc + 3) ls st σ) : dc_X κ pc ls (.int x :: st) σ := by
  obtain ⟨p, l, e, R, s, m, args, below, meth, c, cells, slots, Z, D, cA, ad, A, H0⟩ := κ
  obtain ⟨hx, hb, hml, hown, hts, hnw, hK, hap, hR⟩ := hC
  intro H locs la hP hS hL
  exact lv_if_ne hx hb hd ht (fun q => kt q H locs la hP hS hL) (fun q => kf q H locs la hP hS hL)
theorem dx_if_lt (hC : dc_Cx κ own b nL fr lo) {x : Int32} {off : Int} {tgt : Nat} (hd : decode b pc = .ok (.ifCond .lt off, 3)) (ht : (pc : Int) + off = (tgt : Int)) (kt : x < 0 → dc_X κ tgt ls st σ) (kf : ¬ x < 0 → dc_X κ (pc + 3) ls st σ) : dc_X κ pc ls (.int x :: st) σ := by
  obtain ⟨p, l, e, R, s, m, args, below, meth, c, cells, slots, Z, D, cA, ad, A, H0⟩ := κ
  obtain ⟨hx, hb, hml, hown, hts, hnw, hK, hap, hR⟩ := hC
  intro H locs la hP hS hL
  exact lv_if_lt hx hb hd ht (fun q => kt q H locs la hP hS hL) (fun q => kf q H locs la hP hS hL)
theorem dx_if_ge (hC : dc_Cx κ own b nL fr lo) {x : Int32} {off : Int} {tgt : Nat} (hd : decode b pc = .ok (.ifCond .ge off, 3)) (ht : (pc : Int) + off = (tgt : Int)) (kt : 0 ≤ x → dc_X κ tgt ls st σ) (kf : ¬ 0 ≤ x → dc_X κ (pc + 3) ls st σ) : dc_X κ pc ls (.int x :: st) σ := by
  obtain ⟨p, l, e, R, s, m, args, below, meth, c, cells, slots, Z, D, cA, ad, A, H0⟩ := κ
  obtain ⟨hx, hb, hml, hown, hts, hnw, hK, hap, hR⟩ := hC
  intro H locs la hP hS hL
  exact lv_if_ge hx hb hd ht (fun q => kt q H locs la hP hS hL) (fun q => kf q H locs la hP hS hL)
theorem dx_if_gt (hC : dc_Cx κ own b nL fr lo) {x : Int32} {off : Int} {tgt : Nat} (hd : decode b pc = .ok (.ifCond .gt off, 3)) (ht : (pc : Int) + off = (tgt : Int)) (kt : 0 < x → dc_X κ tgt ls st σ) (kf : ¬ 0 < x → dc_X κ (pc + 3) ls st σ) : dc_X κ pc ls (.int x :: st) σ := by
  obtain ⟨p, l, e, R, s, m, args, below, meth, c, cells, slots, Z, D, cA, ad, A, H0⟩ := κ
  obtain ⟨hx, hb, hml, hown, hts, hnw, hK, hap, hR⟩ := hC
  intro H locs la hP hS hL
  exact lv_if_gt hx hb hd ht (fun q => kt q H locs la hP hS hL) (fun q => kf q H locs la hP hS hL)
theorem dx_if_le (hC : dc_Cx κ own b nL fr lo) {x : Int32} {off : Int} {tgt : Nat} (hd : decode b pc = .ok (.ifCond .le off, 3)) (ht : (pc : Int) + off = (tgt : Int)) (kt : x ≤ 0 → dc_X κ tgt ls st σ) (kf : ¬ x ≤ 0 → dc_X κ (pc + 3) ls st σ) : dc_X κ pc ls (.int x :: st) σ := by
  obtain ⟨p, l, e, R, s, m, args, below, meth, c, cells, slots, Z, D, cA, ad, A, H0⟩ := κ
  obtain ⟨hx, hb, hml, hown, hts, hnw, hK, hap, hR⟩ := hC
  intro H locs la hP hS hL
  exact lv_if_le hx hb hd ht (fun q => kt q H locs la hP hS hL) (fun q => kf q H locs la hP hS hL)
theorem dx_icmp_eq (hC : dc_Cx κ own b nL fr lo) {x y : Int32} {off : Int} {tgt : Nat} (hd : decode b pc = .ok (.if_icmp .eq off, 3)) (ht : (pc : Int) + off = (tgt : Int)) (kt : x = y → dc_X κ tgt ls st σ) (kf : ¬ x = y → dc_X κ (pc + 3) ls st σ) : dc_X κ pc ls (.int y :: .int x :: st) σ := by
  obtain ⟨p, l, e, R, s, m, args, below, meth, c, cells, slots, Z, D, cA, ad, A, H0⟩ := κ
  obtain ⟨hx, hb, hml, hown, hts, hnw, hK, hap, hR⟩ := hC
  intro H locs la hP hS hL
  exact lv_icmp_eq hx hb hd ht (fun q => kt q H locs la hP hS hL) (fun q => kf q H locs la hP hS hL)
theorem dx_icmp_ne (hC : dc_Cx κ own b nL fr lo) {x y : Int32} {off : Int} {tgt : Nat} (hd : decode b pc = .ok (.if_icmp .ne off, 3)) (ht : (pc : Int) + off = (tgt : Int)) (kt : ¬ x = y → dc_X κ tgt ls st σ) (kf : x = y → dc_X κ (pc + 3) ls st σ) : dc_X κ pc ls (.int y :: .int x :: st) σ := by
  obtain ⟨p, l, e, R, s, m, args, below, meth, c, cells, slots, Z, D, cA, ad, A, H0⟩ := κ
  obtain ⟨hx, hb, hml, hown, hts, hnw, hK, hap, hR⟩ := hC
  intro H locs la hP hS hL
  exact lv_icmp_ne hx hb hd ht (fun q => kt q H locs la hP hS hL) (fun q => kf q H locs la hP hS hL)
theorem dx_icmp_lt (hC : dc_Cx κ own b nL fr lo) {x y : Int32} {off : Int} {tgt : Nat} (hd : decode b pc = .ok (.if_icmp .lt off, 3)) (ht : (pc : Int) + off = (tgt : Int)) (kt : x < y → dc_X κ tgt ls st σ) (kf : ¬ x < y → dc_X κ (pc + 3) ls st σ) : dc_X κ pc ls (.int y :: .int x :: st) σ := by
  obtain ⟨p, l, e, R, s, m, args, below, meth, c, cells, slots, Z, D, cA, ad, A, H0⟩ := κ
  obtain ⟨hx, hb, hml, hown, hts, hnw, hK, hap, hR⟩ := hC
  intro H locs la hP hS hL
  exact lv_icmp_lt hx hb hd ht (fun q => kt q H locs la hP hS hL) (fun q => kf q H locs la hP hS hL)
theorem dx_icmp_ge (hC : dc_Cx κ own b nL fr lo) {x y : Int32} {off : Int} {tgt : Nat} (hd : decode b pc = .ok (.if_icmp .ge off, 3)) (ht : (pc : Int) + off = (tgt : Int)) (kt : y ≤ x → dc_X κ tgt ls st σ) (kf : ¬ y ≤ x → dc_X κ (pc + 3) ls st σ) : dc_X κ pc ls (.int y :: .int x :: st) σ := by
  obtain ⟨p, l, e, R, s, m, args, below, meth, c, cells, slots, Z, D, cA, ad, A, H0⟩ := κ
  obtain ⟨hx, hb, hml, hown, hts, hnw, hK, hap, hR⟩ := hC
  intro H locs la hP hS hL
  exact lv_icmp_ge hx hb hd ht (fun q => kt q H locs la hP hS hL) (fun q => kf q H locs la hP hS hL)
theorem dx_icmp_gt (hC : dc_Cx κ own b nL fr lo) {x y : Int32} {off : Int} {tgt : Nat} (hd : decode b pc = .ok (.if_icmp .gt off, 3)) (ht : (pc : Int) + off = (tgt : Int)) (kt : y < x → dc_X κ tgt ls st σ) (kf : ¬ y < x → dc_X κ (pc + 3) ls st σ) : dc_X κ pc ls (.int y :: .int x :: st) σ := by
  obtain ⟨p, l, e, R, s, m, args, below, meth, c, cells, slots, Z, D, cA, ad, A, H0⟩ := κ
  obtain ⟨hx, hb, hml, hown, hts, hnw, hK, hap, hR⟩ := hC
  intro H locs la hP hS hL
  exact lv_icmp_gt hx hb hd ht (fun q => kt q H locs la hP hS hL) (fun q => kf q H locs la hP hS hL)
theorem dx_icmp_le (hC : dc_Cx κ own b nL fr lo) {x y : Int32} {off : Int} {tgt : Nat} (hd : decode b pc = .ok (.if_icmp .le off, 3)) (ht : (pc : Int) + off = (tgt : Int)) (kt : x ≤ y → dc_X κ tgt ls st σ) (kf : ¬ x ≤ y → dc_X κ (pc + 3) ls st σ) : dc_X κ pc ls (.int y :: .int x :: st) σ := by
  obtain ⟨p, l, e, R, s, m, args, below, meth, c, cells, slots, Z, D, cA, ad, A, H0⟩ := κ
  obtain ⟨hx, hb, hml, hown, hts, hnw, hK, hap, hR⟩ := hC
  intro H locs la hP hS hL
  exact lv_icmp_le hx hb hd ht (fun q => kt q H locs la hP hS hL) (fun q => kf q H locs la hP hS hL)
theorem dx_goto (hC : dc_Cx κ own b nL fr lo) {off : Int} {tgt : Nat} (hd : decode b pc = .ok (.goto off, 3)) (ht : (pc : Int) + off = (tgt : Int)) (k : dc_X κ tgt ls st σ) : dc_X κ pc ls st σ := by
  obtain ⟨p, l, e, R, s, m, args, below, meth, c, cells, slots, Z, D, cA, ad, A, H0⟩ := κ
  obtain ⟨hx, hb, hml, hown, hts, hnw, hK, hap, hR⟩ := hC
  intro H locs la hP hS hL
  exact lv_goto hx hb hd ht (k H locs la hP hS hL)
theorem dx_lookup (hC : dc_Cx κ own b nL fr lo) {dflt : Int} {ps : Array (Int × Int)} {len : Nat} {x : Int32} {off : Int} {tgt : Nat} (hd : decode b pc = .ok (.lookupswitch dflt ps, len)) (hp : (ps.toList.zip (ps.toList.drop 1)).all (fun (a, next) => a.1 < next.1) = true) (ho : Op.lookupswitch.offset ps.toList dflt x.toInt = off) (ht : (pc : Int) + off = (tgt : Int)) (k : dc_X κ tgt ls st σ) : dc_X κ pc ls (.int x :: st) σ := by
  obtain ⟨p, l, e, R, s, m, args, below, meth, c, cells, slots, Z, D, cA, ad, A, H0⟩ := κ
  obtain ⟨hx, hb, hml, hown, hts, hnw, hK, hap, hR⟩ := hC
  intro H locs la hP hS hL
  exact lv_lookup hx hb hd hp ho ht (k H locs la hP hS hL)
theorem dx_tableOut (hC : dc_Cx κ own b nL fr lo) {dflt lo1 hi : Int} {offs : Array Int} {len : Nat} {x : Int32} {tgt : Nat} (hd : decode b pc = .ok (.tableswitch dflt lo1 hi offs, len)) (h : x.toInt < lo1 ∨ hi < x.toInt) (ht : (pc : Int) + dflt = (tgt : Int)) (k : dc_X κ tgt ls st σ) : dc_X κ pc ls (.int x :: st) σ := by
  obtain ⟨p, l, e, R, s, m, args, below, meth, c, cells, slots, Z, D, cA, ad, A, H0⟩ := κ
  obtain ⟨hx, hb, hml, hown, hts, hnw, hK, hap, hR⟩ := hC
  intro H locs la hP hS hL
  exact lv_tableOut hx hb hd h ht (k H locs la hP hS hL)
theorem dx_tableIn (hC : dc_Cx κ own b nL fr lo) {dflt lo1 hi : Int} {offs : Array Int} {len : Nat} {x : Int32} {off : Int} {tgt : Nat} (hd : decode b pc = .ok (.tableswitch dflt lo1 hi offs, len)) (h1 : ¬ x.toInt < lo1) (h2 : ¬ hi < x.toInt) (ho : offs[(x.toInt - lo1).toNat]? = some off) (ht : (pc : Int) + off = (tgt : Int)) (k : dc_X κ tgt ls st σ) : dc_X κ pc ls (.int x :: st) σ := by
  obtain ⟨p, l, e, R, s, m, args, below, meth, c, cells, slots, Z, D, cA, ad, A, H0⟩ := κ
  obtain ⟨hx, hb, hml, hown, hts, hnw, hK, hap, hR⟩ := hC
  intro H locs la hP hS hL
  exact lv_tableIn hx hb hd h1 h2 ho ht (k H locs la hP hS hL)
/-- a field of a class, as its link has it -/
def dc_fl (own : String) (idx ci j : Nat) (q : vw_C) : Prop := dc_cl[ci]? = some q ∧ j < q.2.2 ∧ Cond.fieldLink own idx (q.2.1 j).1 (q.2.1 j).2.1 (q.2.1 j).2.2.1 ∈ dc_tb ∧ (∀ w ∈ u_ws q.1 q.2.1 q.2.2, w ∈ dc_tb) ∧ ∀ a, a < q.2.2 → ∀ b, b < q.2.2 → a ≠ b → (q.2.1 a).2.1 ≠ (q.2.1 b).2.1
theorem dx_get (hC : dc_Cx κ own b nL fr lo) {idx ci j kd q1 : Nat} {ks : List Nat} {v : Value} {q : vw_C} (hd : decode b pc = .ok (.getfield idx, 3)) (hf : dc_fl own idx ci j q) (hk : dc_lay[q1]? = some (.inl (ci, ks))) (hj : ks[j]? = some kd) (hv : dc_val σ q1 j kd = v) (k : dc_X κ (pc + 3) ls (v :: st) σ) : dc_X κ pc ls (.ref q1 :: st) σ := by
  obtain ⟨p, l, e, R, s, m, args, below, meth, c, cells, slots, Z, D, cA, ad, A, H0⟩ := κ
  obtain ⟨hx, hb, hml, hown, hts, hnw, hK, hap, hR⟩ := hC
  intro H locs la hP hS hL
  obtain ⟨f1, f2, f3, f4, -⟩ := hf
  subst hv
  exact va_get (own := own) (C := q.1) (T := q.2.1) (N := q.2.2) hx hb hts f4 hown hK hP q1 (dc_ws_get hk) f1 j f2 (hts _ f3) (fun _ h9 => h9) (v := dc_cv ad (dc_val σ q1 j kd)) (by simp [List.getElem?_mapIdx, hj]) hd (k H locs la hP hS hL)
theorem dx_putI (hC : dc_Cx κ own b nL fr lo) {idx ci j kd q1 : Nat} {ks : List Nat} {v : Int32} {q : vw_C} {tyf : Nat → FieldType} (hd : decode b pc = .ok (.putfield idx, 3)) (hf : dc_fl own idx ci j q) (hk : dc_lay[q1]? = some (.inl (ci, ks))) (hj : ks[j]? = some kd) (hty : ∀ k, k < q.2.2 → parseFieldDescriptor (q.2.1 k).2.2.1 = some (tyf k)) (hfin : (q.2.1 j).2.2.2 = false) (h0 : kd = 0 ∧ tyf j = .int ∨ kd = 2 ∧ tyf j = .boolean ∧ (v = 0 ∨ v = 1)) (k : dc_X κ (pc + 3) ls st (dc_wI σ q1 j v)) : dc_X κ pc ls (.int v :: .ref q1 :: st) σ := by
  obtain ⟨p, l, e, R, s, m, args, below, meth, c, cells, slots, Z, D, cA, ad, A, H0⟩ := κ
  obtain ⟨hx, hb, hml, hown, hts, hnw, hK, hap, hR⟩ := hC
  intro H locs la hP hS hL
  obtain ⟨f1, f2, f3, f4, f5⟩ := hf
  have h01 : kd = 0 ∨ kd = 2 := h0.elim (fun h => Or.inl h.1) (fun h => Or.inr h.1)
  have hn : narrow (tyf j) (.int v) = .int v ∧ Jvm.fits (tyf j) (.int v) = true := by
    rcases h0 with ⟨-, h⟩ | ⟨-, h, rfl | rfl⟩ <;> rw [h]
    · exact ⟨rfl, rfl⟩
    · exact ⟨by decide, by decide⟩
    · exact ⟨by decide, by decide⟩
  refine va_put (own := own) (C := q.1) (T := q.2.1) (N := q.2.2) hx hb hts f4 tyf hty f5 hown hK hP (dc_D hap σ) hS q1 (dc_ws_get hk) f1 j f2 (hts _ f3) (fun _ h9 => h9) hfin (ty := tyf j) (v := .int v) (hty j f2) hn.1 hn.2 (by simp; exact (List.getElem?_eq_some_iff.mp hj).1) hd (fun H1 locs1 hP1 hD1 hS1 => ?_)
  exact k H1 locs1 la (by rw [dc_set_I hk hj h01] at hP1; exact hP1) hS1 hL
theorem dx_putL (hC : dc_Cx κ own b nL fr lo) {idx ci j q1 : Nat} {ks : List Nat} {v : Int64} {q : vw_C} {tyf : Nat → FieldType} (hd : decode b pc = .ok (.putfield idx, 3)) (hf : dc_fl own idx ci j q) (hk : dc_lay[q1]? = some (.inl (ci, ks))) (hj : ks[j]? = some 1) (hty : ∀ k, k < q.2.2 → parseFieldDescriptor (q.2.1 k).2.2.1 = some (tyf k)) (hfin : (q.2.1 j).2.2.2 = false) (h0 : tyf j = .long) (k : dc_X κ (pc + 3) ls st (dc_wL σ q1 j v)) : dc_X κ pc ls (.long v :: .ref q1 :: st) σ := by
  obtain ⟨p, l, e, R, s, m, args, below, meth, c, cells, slots, Z, D, cA, ad, A, H0⟩ := κ
  obtain ⟨hx, hb, hml, hown, hts, hnw, hK, hap, hR⟩ := hC
  intro H locs la hP hS hL
  obtain ⟨f1, f2, f3, f4, f5⟩ := hf
  refine va_put (own := own) (C := q.1) (T := q.2.1) (N := q.2.2) hx hb hts f4 tyf hty f5 hown hK hP (dc_D hap σ) hS q1 (dc_ws_get hk) f1 j f2 (hts _ f3) (fun _ h9 => h9) hfin (ty := tyf j) (v := .long v) (hty j f2) (by rw [h0]; rfl) (by rw [h0]; rfl) (by simp; exact (List.getElem?_eq_some_iff.mp hj).1) hd (fun H1 locs1 hP1 hD1 hS1 => ?_)
  exact k H1 locs1 la (by rw [dc_set_L hk hj] at hP1; exact hP1) hS1 hL
theorem dx_iald (hC : dc_Cx κ own b nL fr lo) {q1 n : Nat} {i : Int32} (hd : decode b pc = .ok (.iaload, 1)) (hk : dc_lay[q1]? = some (.inr (0, n))) (hi : vp_in i n) (k : dc_X κ (pc + 1) ls (.int (σ.1 q1 i.toNatClampNeg) :: st) σ) : dc_X κ pc ls (.int i :: .ref q1 :: st) σ := by
  obtain ⟨p, l, e, R, s, m, args, below, meth, c, cells, slots, Z, D, cA, ad, A, H0⟩ := κ
  obtain ⟨hx, hb, hml, hown, hts, hnw, hK, hap, hR⟩ := hC
  intro H locs la hP hS hL
  exact va_iald hx hb hK hP q1 0 (dc_ws_get hk) rfl hi hd (k H locs la hP hS hL)
theorem dx_zald (hC : dc_Cx κ own b nL fr lo) {q1 n : Nat} {i : Int32} (hd : decode b pc = .ok (.baload, 1)) (hk : dc_lay[q1]? = some (.inr (2, n))) (hi : vp_in i n) (k : dc_X κ (pc + 1) ls (.int (σ.1 q1 i.toNatClampNeg) :: st) σ) : dc_X κ pc ls (.int i :: .ref q1 :: st) σ := by
  obtain ⟨p, l, e, R, s, m, args, below, meth, c, cells, slots, Z, D, cA, ad, A, H0⟩ := κ
  obtain ⟨hx, hb, hml, hown, hts, hnw, hK, hap, hR⟩ := hC
  intro H locs la hP hS hL
  exact va_zald hx hb hK hP q1 2 (dc_ws_get hk) rfl hi hd (k H locs la hP hS hL)
theorem dx_lald (hC : dc_Cx κ own b nL fr lo) {q1 n : Nat} {i : Int32} (hd : decode b pc = .ok (.laload, 1)) (hk : dc_lay[q1]? = some (.inr (1, n))) (hi : vp_in i n) (k : dc_X κ (pc + 1) ls (.long (σ.2 q1 i.toNatClampNeg) :: st) σ) : dc_X κ pc ls (.int i :: .ref q1 :: st) σ := by
  obtain ⟨p, l, e, R, s, m, args, below, meth, c, cells, slots, Z, D, cA, ad, A, H0⟩ := κ
  obtain ⟨hx, hb, hml, hown, hts, hnw, hK, hap, hR⟩ := hC
  intro H locs la hP hS hL
  exact va_lald hx hb hK hP q1 1 (dc_ws_get hk) rfl hi hd (k H locs la hP hS hL)
theorem dx_iast (hC : dc_Cx κ own b nL fr lo) {q1 n : Nat} {i v : Int32} (hd : decode b pc = .ok (.iastore, 1)) (hk : dc_lay[q1]? = some (.inr (0, n))) (hi : vp_in i n) (k : dc_X κ (pc + 1) ls st (dc_wI σ q1 i.toNatClampNeg v)) : dc_X κ pc ls (.int v :: .int i :: .ref q1 :: st) σ := by
  obtain ⟨p, l, e, R, s, m, args, below, meth, c, cells, slots, Z, D, cA, ad, A, H0⟩ := κ
  obtain ⟨hx, hb, hml, hown, hts, hnw, hK, hap, hR⟩ := hC
  intro H locs la hP hS hL
  refine va_iast hx hb hK hP (dc_D hap σ) hS q1 0 (dc_ws_get hk) rfl hi hd (fun H1 locs1 hP1 hD1 hS1 => ?_)
  exact k H1 locs1 la (by rw [dc_put_I hk (by decide)] at hP1; exact hP1) hS1 hL
theorem dx_zast (hC : dc_Cx κ own b nL fr lo) {q1 n : Nat} {i v : Int32} (hd : decode b pc = .ok (.bastore, 1)) (hk : dc_lay[q1]? = some (.inr (2, n))) (hi : vp_in i n) (hv : vp_nar .boolean v = v) (k : dc_X κ (pc + 1) ls st (dc_wI σ q1 i.toNatClampNeg v)) : dc_X κ pc ls (.int v :: .int i :: .ref q1 :: st) σ := by
  obtain ⟨p, l, e, R, s, m, args, below, meth, c, cells, slots, Z, D, cA, ad, A, H0⟩ := κ
  obtain ⟨hx, hb, hml, hown, hts, hnw, hK, hap, hR⟩ := hC
  intro H locs la hP hS hL
  refine va_zast hx hb hK hP (dc_D hap σ) hS q1 2 (dc_ws_get hk) rfl hi hd (fun H1 locs1 hP1 hD1 hS1 => ?_)
  rw [hv] at hP1
  exact k H1 locs1 la (by rw [dc_put_I hk (by decide)] at hP1; exact hP1) hS1 hL
theorem dx_last (hC : dc_Cx κ own b nL fr lo) {q1 n : Nat} {i : Int32} {v : Int64} (hd : decode b pc = .ok (.lastore, 1)) (hk : dc_lay[q1]? = some (.inr (1, n))) (hi : vp_in i n) (k : dc_X κ (pc + 1) ls st (dc_wL σ q1 i.toNatClampNeg v)) : dc_X κ pc ls (.long v :: .int i :: .ref q1 :: st) σ := by
  obtain ⟨p, l, e, R, s, m, args, below, meth, c, cells, slots, Z, D, cA, ad, A, H0⟩ := κ
  obtain ⟨hx, hb, hml, hown, hts, hnw, hK, hap, hR⟩ := hC
  intro H locs la hP hS hL
  refine va_last hx hb hK hP (dc_D hap σ) hS q1 1 (dc_ws_get hk) rfl hi hd (fun H1 locs1 hP1 hD1 hS1 => ?_)
  exact k H1 locs1 la (by rw [dc_put_L hk] at hP1; exact hP1) hS1 hL
theorem dx_alen (hC : dc_Cx κ own b nL fr lo) {q1 t n : Nat} {v : Int32} (hd : decode b pc = .ok (.arraylength, 1)) (hk : dc_lay[q1]? = some (.inr (t, n))) (ht : t < 3) (hv : Int32.ofNat n = v) (k : dc_X κ (pc + 1) ls (.int v :: st) σ) : dc_X κ pc ls (.ref q1 :: st) σ := by
  obtain ⟨p, l, e, R, s, m, args, below, meth, c, cells, slots, Z, D, cA, ad, A, H0⟩ := κ
  obtain ⟨hx, hb, hml, hown, hts, hnw, hK, hap, hR⟩ := hC
  intro H locs la hP hS hL
  have h3 : (dc_tys cA)[t]? = some (cA t, dc_ty t) := by
    match t, ht with
    | 0, _ => rfl
    | 1, _ => rfl
    | 2, _ => rfl
  exact va_alen hx hb hK hP q1 t (dc_ws_get hk) h3 hv hd (k H locs la hP hS hL)
def dc_lkCp (own : String) (idx : Nat) : Prop := Cond.methodLink own idx arraycopyName ∈ dc_tb ∧ Cond.native arraycopyName ∈ dc_tb ∧ Cond.static arraycopyName ∈ dc_tb ∧ Cond.initialized "java/lang/System" ∈ dc_tb
theorem dx_copy (hC : dc_Cx κ own b nL fr lo) {idx q0 q1 n0 n1 n : Nat} {v : Int32} (hd : decode b pc = .ok (.invokestatic idx, 3)) (hw : dc_lkCp own idx) (hk0 : dc_lay[q0]? = some (.inr (0, n0))) (hk1 : dc_lay[q1]? = some (.inr (0, n1))) (hv : v.toNatClampNeg = n) (hv0 : ¬ v < 0) (h4 : n ≤ n0) (h5 : n ≤ n1) (hf1 : 1 ≤ fr) (hl1 : (st.map fun v => v.category).sum + 40 ≤ lo) (k : dc_X κ (pc + 3) ls st (dc_cp σ q0 q1 n)) : dc_X κ pc ls (.int v :: .int 0 :: .ref q1 :: .int 0 :: .ref q0 :: st) σ := by
  obtain ⟨p, l, e, R, s, m, args, below, meth, c, cells, slots, Z, D, cA, ad, A, H0⟩ := κ
  obtain ⟨hx, hb, hml, hown, hts, hnw, hK, hap, hR⟩ := hC
  intro H locs la hP hS hL
  obtain ⟨w1, w2, w3, w4⟩ := hw
  subst hv
  have z0 : (0 : Int32).toNatClampNeg = 0 := by decide
  have hcat : ((st.map (dc_cv ad)).map fun v => v.category).sum = (st.map fun v => v.category).sum := by
    rw [List.map_map]
    exact congrArg List.sum (List.map_congr_left fun v _ => dc_cv_cat ad v)
  refine va_copyi hx hb (hL.1.symm) hown (hts _ w1) (hts _ w2) (hts _ w3) (hts _ w4) hK hP (dc_D hap σ) hS q0 q1 0 0 (dc_ws_get hk0) (dc_ws_get hk1) rfl rfl rfl (by decide) (by decide) hv0 (by rw [z0]; omega) (by rw [z0]; omega) (fun _ _ => rfl) (Nat.le_trans hf1 hR.1) ?_ hd (fun H1 locs1 hP1 hD1 hS1 => ?_)
  · rw [hcat]
    have : nativeFrameWords "java/lang/System" "arraycopy" 5 = 7 := by decide
    have := hR.2.1
    omega
  · exact k H1 locs1 la (by rw [show (0 : Int32).toNatClampNeg = 0 by decide, dc_put_C hk1] at hP1; exact hP1) hS1 hL
theorem dc_cat (ad : Nat → Nat) (st : List Value) : ((st.map (dc_cv ad)).map fun v => v.category).sum = (st.map fun v => v.category).sum := by
  rw [List.map_map]
  exact congrArg List.sum (List.map_congr_left fun v _ => dc_cv_cat ad v)
theorem dc_NW.calling {U : State} (h : dc_NW U) (g : JFrame) (mk : MethodId) (a : Array Value) : dc_NW (U.calling g mk a) := fun q hq => va_Nw.same (u := U) rfl rfl (h q hq)
theorem dc_blind {D : va_G} {cA : Nat → ClassId} {ad : Nat → Nat} {σ : dc_HP} {av : List Value} : FrameBlind (dc_Pc D cA ad σ av) := fun a U g mk q => ⟨q.1, q.2.1, va_K.moved (u := U) (U := U.calling g mk a) (Vm.Alike.refl U.vm) q.2.2.1, q.2.2.2.calling g mk a⟩
theorem dc_NW.warm {s U : State} (hW : s.WarmedH U.vm) (h : dc_NW s) : dc_NW U := fun q hq => va_Nw.warmM hW (h q hq)
/-- a method that a call reaches: its own words -/
def dc_mOk (M : dc_M) (n : Nat) : Prop := Cond.code M.2.2.1 M.2.1 M.2.2.2.1 M.2.2.2.2.1 ∈ dc_tb ∧ Cond.initialized M.2.2.1.cls ∈ dc_tb ∧ plainName M.2.2.1.cls = true ∧ M.2.2.1.cls = M.1 ∧ (M.2.2.1.cls ≠ "java/lang/invoke/MethodHandle" ∧ M.2.2.1.cls ≠ "java/lang/invoke/VarHandle" ∧ (parseMethodDescriptor M.2.2.1.desc).map (fun d => d.parameters.length) = some n)
def dc_lkV (own : String) (idx : Nat) (M : dc_M) (n : Nat) : Prop := dc_mOk M n ∧ Cond.methodLink own idx M.2.2.1 ∈ dc_tb ∧ Cond.instanceMethod M.2.2.1 ∈ dc_tb ∧ Cond.selects M.2.2.1.cls M.2.2.1 M.2.2.1 ∈ dc_tb
def dc_lkS (own : String) (idx : Nat) (M : dc_M) (n : Nat) : Prop := dc_mOk M n ∧ Cond.methodLink own idx M.2.2.1 ∈ dc_tb ∧ Cond.static M.2.2.1 ∈ dc_tb
def dc_lkN (own : String) (idx : Nat) (M : dc_M) (n : Nat) (host : String) : Prop := dc_mOk M n ∧ (own, idx, M.2.2.1, host) ∈ dc_nest ∧ Cond.static M.2.2.1 ∈ dc_tb
theorem dc_go {p : Program} {l : Launch} {e : Env} {R : Room} {s : State} {m : MethodId} {args : Array Value} {below : List Frame} {meth : Method} {c : Code} {H : Heap} {locs : List Loc} {cells slots : Nat} {Z : State → Prop} {D : va_G} {cA : Nat → ClassId} {ad : Nat → Nat} {A : Nat → Prop} {H0 : Heap} {pc : Nat} {la : Array Slot} {st0 rest : List Value} {Q : Option Value → dc_HP → Prop} {a : Array Value}
    (hr : va_Run p l e R s m args below meth c H locs cells slots 0 0 (F0 m pc la st0) rest (dc_Qc D cA ad A Q a) A) (hS : va_S A H0 H locs)
    (kk : ∀ (r : Option Value) (σ' : dc_HP) (H1 : Heap) (locs1 : List Loc), Q r σ' → va_P D dc_cl (dc_ws cA ad σ') H1 → va_S A H0 H1 locs1 → W p l e R s m args below meth c H1 locs1 cells slots Z (F0 m (pc + 3) la ((r.map (dc_cv ad)).toList ++ rest))) : W p l e R s m args below meth c H locs cells slots Z (F0 m pc la st0) := by
  intro T hT X
  obtain ⟨v, st₀, t, T', L, h0, X', hL, e1, e2, ⟨⟨r, σ', hv, hp, hb⟩, hz, hk⟩, st⟩ := hr T hT X
  cases hv
  rw [h0] at hz hk
  obtain ⟨t2, a1, b1⟩ := kk r σ' T'.heap (locs ++ L) hp (by rw [e1]; exact hb)
    ⟨Nat.le_trans hS.1 (by rw [e1]; exact hz), fun q h1 h2 => by rw [e1, hk q (Nat.lt_of_lt_of_le h1 hS.1) h2]; exact hS.2.1 q h1 h2, fun q hq => by
      rcases List.mem_append.mp hq with h | h
      · exact hS.2.2 q h
      · exact hL q h⟩ T' rfl X'
  exact ⟨t2, st t2 a1, b1⟩
theorem dc_res {ad : Nat → Nat} {r : Option Value} {st : List Value} : (r.map (dc_cv ad)).toList ++ st.map (dc_cv ad) = (r.toList ++ st).map (dc_cv ad) := by
  cases r <;> simp
theorem dc_rev {ad : Nat → Nat} {As st : List Value} : (As.reverse ++ st).map (dc_cv ad) = (As.map (dc_cv ad)).reverse ++ st.map (dc_cv ad) := by
  simp
theorem dx_callV (hC : dc_Cx κ own b nL fr lo) {idx n : Nat} {M : dc_M} {As rest : List Value} {Q : Option Value → dc_HP → Prop} (hd : decode b pc = .ok (.invokevirtual idx, 3)) (hw : dc_lkV own idx M n) (hn : As.length = n) {q1 ci : Nat} {ks : List Nat} {q : vw_C} (hk : dc_lay[q1]? = some (.inl (ci, ks))) (hci : dc_cl[ci]? = some q) (hqc : q.1 = M.2.2.1.cls) (hR1 : M.2.2.2.2.2.1 + 1 ≤ fr) (hR2 : 8 + (M.2.2.2.1 + 11) + M.2.2.2.2.2.2 ≤ lo) (hlen : (lg_sl ((.ref q1 :: As).map (dc_cv (fun q => q)))).length ≤ M.2.2.2.1) (hcat : (rest.map fun v => v.category).sum ≤ 8) (hst : st = As.reverse ++ .ref q1 :: rest) (hg : dc_G M (.ref q1 :: As) σ Q) (kk : ∀ r σ', Q r σ' → dc_X κ (pc + 3) ls (r.toList ++ rest) σ') : dc_X κ pc ls st σ := by
  obtain ⟨p, l, e, R, s, m, args, below, meth, c, cells, slots, Z, D, cA, ad, A, H0⟩ := κ
  obtain ⟨hx, hb, hml, hown, hts, hnw, hK, hap, hR⟩ := hC
  intro H locs la hP hS hL
  obtain ⟨⟨w1, w2, w3, w4, w5⟩, w6, w7, w8⟩ := hw
  subst hst
  refine dc_go (Q := Q) (a := ((.ref q1 :: As).map (dc_cv ad)).toArray) (rest := rest.map (dc_cv ad)) (va_runV (cc := b) (nL := nL) (As := As.map (dc_cv ad)) (b := ad q1) (C := M.2.2.1.cls) (Ts := dc_tb) (own := own) ⟨hx, hb, hml, hown, hts⟩ (dc_met hg w3 w4 hlen l hap) ⟨callB_of n hts (dc_goodIn M w1) rfl rfl rfl (hts _ w2) (hts _ w6) w5 ⟨Nat.le_trans hR1 hR.1, Nat.le_trans hR2 hR.2.1⟩, hts _ w7, hts _ w8⟩ ⟨dc_blind, ?_, fun U hU hW => ⟨rfl, by rw [hU]; exact hP, va_K.moved hW.alike hK, hnw.warm hW⟩⟩ rfl (by simp [hn]) (hL.1.trans hml) ?_ ?_ hd ⟨hR.2.2.1, hR.2.2.2⟩) hS ?_
  · have h9 := va_recv (ci := ci) (q0 := q1) hK hP hci (dc_ws_get hk)
    rw [hqc] at h9
    exact h9
  · rw [dc_rev]; rfl
  · rw [dc_cat]; exact Nat.le_trans (Nat.le_of_eq (Nat.zero_add _)) hcat
  · exact fun r σ' H1 locs1 hq hP1 hS1 => by rw [dc_res]; exact kk r σ' hq H1 locs1 la hP1 hS1 hL
theorem dx_callS (hC : dc_Cx κ own b nL fr lo) {idx n : Nat} {M : dc_M} {As rest : List Value} {Q : Option Value → dc_HP → Prop} (hd : decode b pc = .ok (.invokestatic idx, 3)) (hw : dc_lkS own idx M n) (hn : As.length = n) (hR1 : M.2.2.2.2.2.1 + 1 ≤ fr) (hR2 : 8 + (M.2.2.2.1 + 11) + M.2.2.2.2.2.2 ≤ lo) (hlen : (lg_sl (As.map (dc_cv (fun q => q)))).length ≤ M.2.2.2.1) (hcat : (rest.map fun v => v.category).sum ≤ 8) (hst : st = As.reverse ++ rest) (hg : dc_G M As σ Q) (kk : ∀ r σ', Q r σ' → dc_X κ (pc + 3) ls (r.toList ++ rest) σ') : dc_X κ pc ls st σ := by
  obtain ⟨p, l, e, R, s, m, args, below, meth, c, cells, slots, Z, D, cA, ad, A, H0⟩ := κ
  obtain ⟨hx, hb, hml, hown, hts, hnw, hK, hap, hR⟩ := hC
  intro H locs la hP hS hL
  obtain ⟨⟨w1, w2, w3, w4, w5⟩, w6, w7⟩ := hw
  subst hst
  refine dc_go (Q := Q) (a := (As.map (dc_cv ad)).toArray) (rest := rest.map (dc_cv ad)) (va_runS (cc := b) (nL := nL) (As := As.map (dc_cv ad)) (Ts := dc_tb) (own := own) ⟨hx, hb, hml, hown, hts⟩ (dc_met hg w3 w4 hlen l hap) ⟨callB_of n hts (dc_goodIn M w1) rfl rfl rfl (hts _ w2) (hts _ w6) w5 ⟨Nat.le_trans hR1 hR.1, Nat.le_trans hR2 hR.2.1⟩, hts _ w7⟩ ⟨dc_blind, fun U hU hW => ⟨rfl, by rw [hU]; exact hP, va_K.moved hW.alike hK, hnw.warm hW⟩⟩ rfl (by simp [hn]) (hL.1.trans hml) ?_ ?_ hd ⟨hR.2.2.1, hR.2.2.2⟩) hS ?_
  · exact dc_rev
  · rw [dc_cat]; exact Nat.le_trans (Nat.le_of_eq (Nat.zero_add _)) hcat
  · exact fun r σ' H1 locs1 hq hP1 hS1 => by rw [dc_res]; exact kk r σ' hq H1 locs1 la hP1 hS1 hL
theorem dx_callN (hC : dc_Cx κ own b nL fr lo) {idx n : Nat} {host : String} {M : dc_M} {As rest : List Value} {Q : Option Value → dc_HP → Prop} (hd : decode b pc = .ok (.invokestatic idx, 3)) (hw : dc_lkN own idx M n host) (hn : As.length = n) (hR1 : M.2.2.2.2.2.1 + 1 ≤ fr) (hR2 : 8 + (M.2.2.2.1 + 11) + M.2.2.2.2.2.2 ≤ lo) (hlen : (lg_sl (As.map (dc_cv (fun q => q)))).length ≤ M.2.2.2.1) (hcat : (rest.map fun v => v.category).sum ≤ 8) (hst : st = As.reverse ++ rest) (hg : dc_G M As σ Q) (kk : ∀ r σ', Q r σ' → dc_X κ (pc + 3) ls (r.toList ++ rest) σ') : dc_X κ pc ls st σ := by
  obtain ⟨p, l, e, R, s, m, args, below, meth, c, cells, slots, Z, D, cA, ad, A, H0⟩ := κ
  obtain ⟨hx, hb, hml, hown, hts, hnw, hK, hap, hR⟩ := hC
  intro H locs la hP hS hL
  obtain ⟨⟨w1, w2, w3, w4, w5⟩, w6, w7⟩ := hw
  subst hst
  refine dc_go (Q := Q) (a := (As.map (dc_cv ad)).toArray) (rest := rest.map (dc_cv ad)) (va_runSN (cc := b) (nL := nL) (As := As.map (dc_cv ad)) (Ts := dc_tb) (own := own) (host := host) ⟨hx, hb, hml, hown, hts⟩ (dc_met hg w3 w4 hlen l hap) ⟨va_cnB n hts (dc_goodIn M w1) rfl rfl rfl (hnw _ w6) (hts _ w2) w5 ⟨Nat.le_trans hR1 hR.1, Nat.le_trans hR2 hR.2.1⟩, hts _ w7, trivial⟩ ⟨dc_blind, fun U hU hW => ⟨rfl, by rw [hU]; exact hP, va_K.moved hW.alike hK, hnw.warm hW⟩⟩ rfl (by simp [hn]) (hL.1.trans hml) ?_ ?_ hd ⟨hR.2.2.1, hR.2.2.2⟩) hS ?_
  · exact dc_rev
  · rw [dc_cat]; exact Nat.le_trans (Nat.le_of_eq (Nat.zero_add _)) hcat
  · exact fun r σ' H1 locs1 hq hP1 hS1 => by rw [dc_res]; exact kk r σ' hq H1 locs1 la hP1 hS1 hL
def dc_lk_mmax (own : String) (idx : Nat) : Prop := Cond.methodLink own idx Lib.Math.max.name ∈ dc_tb ∧ Cond.static Lib.Math.max.name ∈ dc_tb ∧ Cond.initialized "java/lang/Math" ∈ dc_tb ∧ Cond.code Lib.Math.max.name Lib.Math.max.code 2 (some .int) ∈ dc_tb
theorem dx_mmax (hC : dc_Cx κ own b nL fr lo) {idx : Nat} {x y : Int32} (hd : decode b pc = .ok (.invokestatic idx, 3)) (hw : dc_lk_mmax own idx) (hf1 : 1 ≤ fr) (hl1 : (st.map fun v => v.category).sum + 13 ≤ lo) (k : dc_X κ (pc + 3) ls (.int (if x < y then y else x) :: st) σ) : dc_X κ pc ls (.int y :: .int x :: st) σ := by
  obtain ⟨p, l, e, R, s, m, args, below, meth, c, cells, slots, Z, D, cA, ad, A, H0⟩ := κ
  obtain ⟨hx, hb, hml, hown, hts, hnw, hK, hap, hR⟩ := hC
  intro H locs la hP hS hL
  obtain ⟨w1, w2, w3, w4⟩ := hw
  exact va_mmax hx hb (hL.1.symm) hown (hts _ w1) (hts _ w2) (hts _ w3) (hts _ w4) (Nat.le_trans hf1 hR.1) (by rw [dc_cat]; exact Nat.le_trans hl1 hR.2.1) hR.2.2.1 hR.2.2.2 hd (k H locs la hP hS hL)
def dc_lk_mmin (own : String) (idx : Nat) : Prop := Cond.methodLink own idx Lib.Math.min.name ∈ dc_tb ∧ Cond.static Lib.Math.min.name ∈ dc_tb ∧ Cond.initialized "java/lang/Math" ∈ dc_tb ∧ Cond.code Lib.Math.min.name Lib.Math.min.code 2 (some .int) ∈ dc_tb
theorem dx_mmin (hC : dc_Cx κ own b nL fr lo) {idx : Nat} {x y : Int32} (hd : decode b pc = .ok (.invokestatic idx, 3)) (hw : dc_lk_mmin own idx) (hf1 : 1 ≤ fr) (hl1 : (st.map fun v => v.category).sum + 13 ≤ lo) (k : dc_X κ (pc + 3) ls (.int (if y < x then y else x) :: st) σ) : dc_X κ pc ls (.int y :: .int x :: st) σ := by
  obtain ⟨p, l, e, R, s, m, args, below, meth, c, cells, slots, Z, D, cA, ad, A, H0⟩ := κ
  obtain ⟨hx, hb, hml, hown, hts, hnw, hK, hap, hR⟩ := hC
  intro H locs la hP hS hL
  obtain ⟨w1, w2, w3, w4⟩ := hw
  exact va_mmin hx hb (hL.1.symm) hown (hts _ w1) (hts _ w2) (hts _ w3) (hts _ w4) (Nat.le_trans hf1 hR.1) (by rw [dc_cat]; exact Nat.le_trans hl1 hR.2.1) hR.2.2.1 hR.2.2.2 hd (k H locs la hP hS hL)
def dc_lk_lmax (own : String) (idx : Nat) : Prop := Cond.methodLink own idx Lib.MathLoose.max_long.x ∈ dc_tb ∧ Cond.static Lib.MathLoose.max_long.x ∈ dc_tb ∧ Cond.initialized "java/lang/Math" ∈ dc_tb ∧ Cond.code Lib.MathLoose.max_long.x Lib.MathLoose.max_long.code 4 (some .long) ∈ dc_tb
theorem dx_lmax (hC : dc_Cx κ own b nL fr lo) {idx : Nat} {x y : Int64} (hd : decode b pc = .ok (.invokestatic idx, 3)) (hw : dc_lk_lmax own idx) (hf1 : 1 ≤ fr) (hl1 : (st.map fun v => v.category).sum + 15 ≤ lo) (k : dc_X κ (pc + 3) ls (.long (if y < x then x else y) :: st) σ) : dc_X κ pc ls (.long y :: .long x :: st) σ := by
  obtain ⟨p, l, e, R, s, m, args, below, meth, c, cells, slots, Z, D, cA, ad, A, H0⟩ := κ
  obtain ⟨hx, hb, hml, hown, hts, hnw, hK, hap, hR⟩ := hC
  intro H locs la hP hS hL
  obtain ⟨w1, w2, w3, w4⟩ := hw
  exact va_mmax_long hx hb (hL.1.symm) hown (hts _ w1) (hts _ w2) (hts _ w3) (hts _ w4) (Nat.le_trans hf1 hR.1) (by rw [dc_cat]; exact Nat.le_trans hl1 hR.2.1) hR.2.2.1 hR.2.2.2 hd (k H locs la hP hS hL)
def dc_lk_labs (own : String) (idx : Nat) : Prop := Cond.methodLink own idx Lib.MathLoose.abs_long.x ∈ dc_tb ∧ Cond.static Lib.MathLoose.abs_long.x ∈ dc_tb ∧ Cond.initialized "java/lang/Math" ∈ dc_tb ∧ Cond.code Lib.MathLoose.abs_long.x Lib.MathLoose.abs_long.code 2 (some .long) ∈ dc_tb
theorem dx_labs (hC : dc_Cx κ own b nL fr lo) {idx : Nat} {x : Int64} (hd : decode b pc = .ok (.invokestatic idx, 3)) (hw : dc_lk_labs own idx) (hf1 : 1 ≤ fr) (hl1 : (st.map fun v => v.category).sum + 13 ≤ lo) (k : dc_X κ (pc + 3) ls (.long (if 0 < x then x else -x) :: st) σ) : dc_X κ pc ls (.long x :: st) σ := by
  obtain ⟨p, l, e, R, s, m, args, below, meth, c, cells, slots, Z, D, cA, ad, A, H0⟩ := κ
  obtain ⟨hx, hb, hml, hown, hts, hnw, hK, hap, hR⟩ := hC
  intro H locs la hP hS hL
  obtain ⟨w1, w2, w3, w4⟩ := hw
  exact va_mabs_long hx hb (hL.1.symm) hown (hts _ w1) (hts _ w2) (hts _ w3) (hts _ w4) (Nat.le_trans hf1 hR.1) (by rw [dc_cat]; exact Nat.le_trans hl1 hR.2.1) hR.2.2.1 hR.2.2.2 hd (k H locs la hP hS hL)
end DX
section DR
variable {κ : dc_KX} {M : dc_M} {Q : Option Value → dc_HP → Prop} {pc : Nat} {ls : List (Option Value)} {σ : dc_HP}
theorem dx_iret (hO : dc_Ok κ M Q) {v : Int32} (hd : decode M.2.1 pc = .ok (.ireturn, 1)) (hr : M.2.2.2.2.1 = some .int) (hq : Q (some (.int v)) σ) : dc_X κ pc ls [.int v] σ := by
  obtain ⟨p, l, e, R, s, m, args, below, meth, c, cells, slots, Z, D, cA, ad, A, H0⟩ := κ
  obtain ⟨⟨hx, hb, -⟩, h1, h2, h3, h4, h5, h6⟩ := hO
  intro H locs la hP hS hL
  cases h3
  cases h4
  subst h5
  subst h6
  exact W.iret hx hb (h1.trans hr) (fun t ht hW => ⟨⟨some (.int v), σ, rfl, hq, by rw [ht]; exact hP⟩, hS.F ht⟩) hS.2.2 hd h2
theorem dx_zret (hO : dc_Ok κ M Q) {v : Int32} (hd : decode M.2.1 pc = .ok (.ireturn, 1)) (hr : M.2.2.2.2.1 = some .boolean) (hn : narrow .boolean (.int v) = .int v) (hq : Q (some (.int v)) σ) : dc_X κ pc ls [.int v] σ := by
  obtain ⟨p, l, e, R, s, m, args, below, meth, c, cells, slots, Z, D, cA, ad, A, H0⟩ := κ
  obtain ⟨⟨hx, hb, -⟩, h1, h2, h3, h4, h5, h6⟩ := hO
  intro H locs la hP hS hL
  cases h3
  cases h4
  subst h5
  subst h6
  exact W.zret hx hb (h1.trans hr) hn (fun t ht hW => ⟨⟨some (.int v), σ, rfl, hq, by rw [ht]; exact hP⟩, hS.F ht⟩) hS.2.2 hd h2
theorem dx_vret (hO : dc_Ok κ M Q) (hd : decode M.2.1 pc = .ok (.return_, 1)) (hr : M.2.2.2.2.1 = none) (hq : Q none σ) : dc_X κ pc ls [] σ := by
  obtain ⟨p, l, e, R, s, m, args, below, meth, c, cells, slots, Z, D, cA, ad, A, H0⟩ := κ
  obtain ⟨⟨hx, hb, -⟩, h1, h2, h3, h4, h5, h6⟩ := hO
  intro H locs la hP hS hL
  cases h3
  cases h4
  subst h5
  subst h6
  exact W.vret hx hb (h1.trans hr) (fun t ht hW => ⟨⟨none, σ, rfl, hq, by rw [ht]; exact hP⟩, hS.F ht⟩) hS.2.2 hd h2
theorem dx_lret (hO : dc_Ok κ M Q) {v : Int64} (hd : decode M.2.1 pc = .ok (.lreturn, 1)) (hr : M.2.2.2.2.1 = some .long) (hq : Q (some (.long v)) σ) : dc_X κ pc ls [.long v] σ := by
  obtain ⟨p, l, e, R, s, m, args, below, meth, c, cells, slots, Z, D, cA, ad, A, H0⟩ := κ
  obtain ⟨⟨hx, hb, -⟩, h1, h2, h3, h4, h5, h6⟩ := hO
  intro H locs la hP hS hL
  cases h3
  cases h4
  subst h5
  subst h6
  exact W.lret hx hb (h1.trans hr) (fun t ht hW => ⟨⟨some (.long v), σ, rfl, hq, by rw [ht]; exact hP⟩, hS.F ht⟩) hS.2.2 hd h2
end DR
