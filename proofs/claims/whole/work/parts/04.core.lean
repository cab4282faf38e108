/-! the numbers of the heap: int places and long places of each cell; the cells' shapes never change behind the constructors -/
abbrev dc_HP : Type := (Nat → Nat → Int32) × (Nat → Nat → Int64)
def dc_wI (σ : dc_HP) (k j : Nat) (v : Int32) : dc_HP := (fun a b => if a = k ∧ b = j then v else σ.1 a b, σ.2)
def dc_wL (σ : dc_HP) (k j : Nat) (v : Int64) : dc_HP := (σ.1, fun a b => if a = k ∧ b = j then v else σ.2 a b)
def dc_cp (σ : dc_HP) (src dst n : Nat) : dc_HP := (fun a b => if a = dst ∧ b < n then σ.1 src b else σ.1 a b, σ.2)
abbrev dc_L : Type := (Nat × List Nat) ⊕ (Nat × Nat)
def dc_ty : Nat → FieldType := fun t => match t with
  | 0 => .int
  | 1 => .long
  | _ => .boolean
def dc_cv (ad : Nat → Nat) (v : Value) : Value := match v with
  | .ref a => .ref (ad a)
  | w => w
def dc_val (σ : dc_HP) (k j kd : Nat) : Value := match kd with
  | 0 => .int (σ.1 k j)
  | 1 => .long (σ.2 k j)
  | 2 => .int (σ.1 k j)
  | r + 3 => .ref r
def dc_arr (σ : dc_HP) (k t : Nat) : (Nat → Int32) ⊕ (Nat → Int64) ⊕ (Nat → UInt32) ⊕ (Nat → UInt64) ⊕ (Nat → Option Nat) := match t with
  | 1 => .inr (.inl (σ.2 k))
  | _ => .inl (σ.1 k)
def dc_ent (cA : Nat → ClassId) (ad : Nat → Nat) (σ : dc_HP) (k : Nat) (L : dc_L) : va_E := match L with
  | .inl (ci, ks) => .inr (ci, ks.mapIdx (fun j kd => dc_cv ad (dc_val σ k j kd)))
  | .inr (t, n) => .inl (cA t, n, dc_arr σ k t)
def dc_ws (cA : Nat → ClassId) (ad : Nat → Nat) (σ : dc_HP) : va_W := dc_lay.mapIdx (fun k L => (ad k, dc_ent cA ad σ k L))
def dc_tys (cA : Nat → ClassId) : List (ClassId × FieldType) := [(cA 0, .int), (cA 1, .long), (cA 2, .boolean)]
/-- the cells' addresses: apart, and of a kind -/
def dc_ap (ad : Nat → Nat) (A : Nat → Prop) : Prop := (∀ i j : Nat, i < dc_lay.length → j < dc_lay.length → ad i = ad j → i = j) ∧ ∀ k : Nat, k < dc_lay.length → A (ad k)
theorem dc_ws_get {cA : Nat → ClassId} {ad : Nat → Nat} {σ : dc_HP} {k : Nat} {L : dc_L} (h : dc_lay[k]? = some L) : (dc_ws cA ad σ)[k]? = some (ad k, dc_ent cA ad σ k L) := by
  simp [dc_ws, List.getElem?_mapIdx, h]
theorem dc_ws_inv {cA : Nat → ClassId} {ad : Nat → Nat} {σ : dc_HP} {k : Nat} {q : Nat × va_E} (h : (dc_ws cA ad σ)[k]? = some q) : ∃ L, dc_lay[k]? = some L ∧ q = (ad k, dc_ent cA ad σ k L) := by
  simp only [dc_ws, List.getElem?_mapIdx, Option.map_eq_some_iff] at h
  obtain ⟨L, h1, h2⟩ := h
  exact ⟨L, h1, h2.symm⟩
theorem dc_D {cA : Nat → ClassId} {ad : Nat → Nat} {A : Nat → Prop} (h : dc_ap ad A) (σ : dc_HP) : va_D A (dc_ws cA ad σ) := by
  refine ⟨fun i j p q hp hq e => ?_, fun k q hq => ?_⟩
  · obtain ⟨L, h1, rfl⟩ := dc_ws_inv hp
    obtain ⟨L', h2, rfl⟩ := dc_ws_inv hq
    exact h.1 i j (List.getElem?_eq_some_iff.mp h1).1 (List.getElem?_eq_some_iff.mp h2).1 e
  · obtain ⟨L, h1, rfl⟩ := dc_ws_inv hq
    exact h.2 k (List.getElem?_eq_some_iff.mp h1).1
theorem dc_ent_eq {cA : Nat → ClassId} {ad : Nat → Nat} {σ τ : dc_HP} {k : Nat} (h : ∀ b, σ.1 k b = τ.1 k b ∧ σ.2 k b = τ.2 k b) (L : dc_L) : dc_ent cA ad σ k L = dc_ent cA ad τ k L := by
  have h1 : σ.1 k = τ.1 k := funext fun b => (h b).1
  have h2 : σ.2 k = τ.2 k := funext fun b => (h b).2
  have hv : ∀ j kd, dc_val σ k j kd = dc_val τ k j kd := by
    intro j kd
    match kd with
    | 0 => simp [dc_val, h1]
    | 1 => simp [dc_val, h2]
    | 2 => simp [dc_val, h1]
    | r + 3 => rfl
  have ha : ∀ t, dc_arr σ k t = dc_arr τ k t := by
    intro t
    match t with
    | 0 => simp [dc_arr, h1]
    | 1 => simp [dc_arr, h2]
    | r + 2 => simp [dc_arr, h1]
  cases L with
  | inl o => obtain ⟨ci, ks⟩ := o; simp [dc_ent, hv]
  | inr o => obtain ⟨t, n⟩ := o; simp [dc_ent, ha]
theorem dc_ws_upd {cA : Nat → ClassId} {ad : Nat → Nat} {σ τ : dc_HP} {k : Nat} {L : dc_L} {E : va_E} (hk : dc_lay[k]? = some L) (h : ∀ i, i ≠ k → ∀ b, σ.1 i b = τ.1 i b ∧ σ.2 i b = τ.2 i b) (hE : dc_ent cA ad τ k L = E) : (dc_ws cA ad σ).set k (ad k, E) = dc_ws cA ad τ := by
  have hlt : k < dc_lay.length := (List.getElem?_eq_some_iff.mp hk).1
  refine List.ext_getElem? fun i => ?_
  rw [List.getElem?_set]
  by_cases e : k = i
  · subst e
    have hl : k < (dc_ws cA ad σ).length := by simp [dc_ws]; exact hlt
    rw [if_pos rfl, if_pos hl, dc_ws_get hk, hE]
  · rw [if_neg e]
    simp only [dc_ws, List.getElem?_mapIdx]
    cases hx : dc_lay[i]? with
    | none => rfl
    | some L' =>
      simp only [Option.map_some]
      rw [dc_ent_eq (h i (fun q => e q.symm)) L']

theorem dc_val_wI {σ : dc_HP} {k j i kd : Nat} {v : Int32} (h : i ≠ j) : dc_val (dc_wI σ k j v) k i kd = dc_val σ k i kd := by
  match kd with
  | 0 => simp [dc_val, dc_wI, h]
  | 1 => rfl
  | 2 => simp [dc_val, dc_wI, h]
  | r + 3 => rfl
theorem dc_val_wL {σ : dc_HP} {k j i kd : Nat} {v : Int64} (h : i ≠ j) : dc_val (dc_wL σ k j v) k i kd = dc_val σ k i kd := by
  match kd with
  | 0 => rfl
  | 1 => simp [dc_val, dc_wL, h]
  | 2 => rfl
  | r + 3 => rfl
theorem dc_map_set {f g : Nat → Nat → Value} {ks : List Nat} {j kd : Nat} {w : Value} (hj : ks[j]? = some kd) (hw : f j kd = w) (hn : ∀ i x, i ≠ j → f i x = g i x) : ks.mapIdx f = (ks.mapIdx g).set j w := by
  refine List.ext_getElem? fun i => ?_
  rw [List.getElem?_set, List.getElem?_mapIdx, List.getElem?_mapIdx]
  by_cases e : j = i
  · subst e
    have hl : j < (ks.mapIdx g).length := by simp; exact (List.getElem?_eq_some_iff.mp hj).1
    rw [if_pos rfl, if_pos hl, hj]
    simp [hw]
  · rw [if_neg e]
    cases hx : ks[i]? with
    | none => rfl
    | some x => simp [hn i x (fun q => e q.symm)]
theorem dc_set_I {cA : Nat → ClassId} {ad : Nat → Nat} {σ : dc_HP} {k j ci kd : Nat} {ks : List Nat} (hk : dc_lay[k]? = some (.inl (ci, ks))) (hj : ks[j]? = some kd) (h0 : kd = 0 ∨ kd = 2) (v : Int32) : (dc_ws cA ad σ).set k (ad k, .inr (ci, (ks.mapIdx (fun j kd => dc_cv ad (dc_val σ k j kd))).set j (.int v))) = dc_ws cA ad (dc_wI σ k j v) := by
  refine dc_ws_upd hk (fun i hi b => ⟨by simp [dc_wI, hi], rfl⟩) ?_
  have h := dc_map_set (f := fun j kd => dc_cv ad (dc_val (dc_wI σ k j v) k j kd)) (g := fun j kd => dc_cv ad (dc_val σ k j kd)) (w := .int v) hj (by rcases h0 with rfl | rfl <;> simp [dc_val, dc_wI, dc_cv])
  refine congrArg (fun x => (Sum.inr (ci, x) : va_E)) (dc_map_set hj ?_ (fun i x hi => by rw [dc_val_wI hi]))
  rcases h0 with rfl | rfl <;> simp [dc_val, dc_wI, dc_cv]
theorem dc_set_L {cA : Nat → ClassId} {ad : Nat → Nat} {σ : dc_HP} {k j ci : Nat} {ks : List Nat} (hk : dc_lay[k]? = some (.inl (ci, ks))) (hj : ks[j]? = some 1) (v : Int64) : (dc_ws cA ad σ).set k (ad k, .inr (ci, (ks.mapIdx (fun j kd => dc_cv ad (dc_val σ k j kd))).set j (.long v))) = dc_ws cA ad (dc_wL σ k j v) := by
  refine dc_ws_upd hk (fun i hi b => ⟨rfl, by simp [dc_wL, hi]⟩) ?_
  refine congrArg (fun x => (Sum.inr (ci, x) : va_E)) (dc_map_set hj ?_ (fun i x hi => by rw [dc_val_wL hi]))
  simp [dc_val, dc_wL, dc_cv]
theorem dc_put_I {cA : Nat → ClassId} {ad : Nat → Nat} {σ : dc_HP} {k j n : Nat} {t : Nat} (hk : dc_lay[k]? = some (.inr (t, n))) (ht : t ≠ 1) (v : Int32) : (dc_ws cA ad σ).set k (ad k, .inl (cA t, n, .inl (upd (σ.1 k) j v))) = dc_ws cA ad (dc_wI σ k j v) := by
  refine dc_ws_upd hk (fun i hi b => ⟨by simp [dc_wI, hi], rfl⟩) ?_
  have e : (dc_wI σ k j v).1 k = upd (σ.1 k) j v := by
    funext b
    simp [dc_wI, upd]
  show (Sum.inl (cA t, n, dc_arr (dc_wI σ k j v) k t) : va_E) = _
  have : dc_arr (dc_wI σ k j v) k t = .inl ((dc_wI σ k j v).1 k) := by
    match t, ht with
    | 0, _ => rfl
    | 1, h => exact absurd rfl h
    | r + 2, _ => rfl
  rw [this, e]
theorem dc_put_L {cA : Nat → ClassId} {ad : Nat → Nat} {σ : dc_HP} {k j n : Nat} (hk : dc_lay[k]? = some (.inr (1, n))) (v : Int64) : (dc_ws cA ad σ).set k (ad k, .inl (cA 1, n, .inr (.inl (vp_updL (σ.2 k) j v)))) = dc_ws cA ad (dc_wL σ k j v) := by
  refine dc_ws_upd hk (fun i hi b => ⟨rfl, by simp [dc_wL, hi]⟩) ?_
  have e : (dc_wL σ k j v).2 k = vp_updL (σ.2 k) j v := by
    funext b
    simp [dc_wL, vp_updL]
  show (Sum.inl (cA 1, n, Sum.inr (Sum.inl ((dc_wL σ k j v).2 k))) : va_E) = _
  rw [e]
theorem dc_put_C {cA : Nat → ClassId} {ad : Nat → Nat} {σ : dc_HP} {k0 k m n : Nat} (hk : dc_lay[k]? = some (.inr (0, n))) : (dc_ws cA ad σ).set k (ad k, .inl (cA 0, n, .inl (va_cpy (σ.1 k0) (σ.1 k) 0 0 m))) = dc_ws cA ad (dc_cp σ k0 k m) := by
  refine dc_ws_upd hk (fun i hi b => ⟨by simp [dc_cp, hi], rfl⟩) ?_
  have e : (dc_cp σ k0 k m).1 k = va_cpy (σ.1 k0) (σ.1 k) 0 0 m := by
    funext b
    simp [dc_cp, va_cpy]
  show (Sum.inl (cA 0, n, Sum.inl ((dc_cp σ k0 k m).1 k)) : va_E) = _
  rw [e]
/-! locals -/
def dc_LH (ad : Nat → Nat) (la : Array Slot) (nL : Nat) (ls : List (Option Value)) : Prop := la.size = nL ∧ lv_wf la ∧ ∀ (i : Nat) (v : Value), ls[i]? = some (some v) → la[i]? = some (Slot.val (dc_cv ad v))
def dc_loc (ad : Nat → Nat) (ls : List (Option Value)) : List (Nat × Value) := (List.range ls.length).filterMap (fun i => match ls[i]? with
  | some (some v) => some (i, dc_cv ad v)
  | _ => none)
theorem dc_loc_mem {ad : Nat → Nat} {ls : List (Option Value)} {q : Nat × Value} : q ∈ dc_loc ad ls ↔ ∃ v, ls[q.1]? = some (some v) ∧ q.2 = dc_cv ad v := by
  simp only [dc_loc, List.mem_filterMap, List.mem_range]
  constructor
  · rintro ⟨i, hi, h⟩
    split at h
    next v hv => cases h; exact ⟨v, hv, rfl⟩
    next => cases h
  · rintro ⟨v, h1, h2⟩
    refine ⟨q.1, (List.getElem?_eq_some_iff.mp h1).1, ?_⟩
    rw [h1]
    exact congrArg some (Prod.ext rfl h2.symm)
theorem dc_LH.has {ad : Nat → Nat} {la : Array Slot} {nL : Nat} {ls : List (Option Value)} (h : dc_LH ad la nL ls) : lv_has la nL (dc_loc ad ls) := by
  refine ⟨h.1, h.2.1, fun q hq => ?_⟩
  obtain ⟨v, h1, h2⟩ := dc_loc_mem.mp hq
  rw [h2]
  exact h.2.2 _ _ h1
theorem dc_cv_cat (ad : Nat → Nat) (v : Value) : (dc_cv ad v).category = v.category := by cases v <;> rfl
/-- a value of one word into a local: a long just below it is lost -/
def dc_st1 : List (Option Value) → Nat → Value → List (Option Value)
  | [], _, _ => []
  | _ :: r, 0, v => some v :: r
  | a :: r, 1, v => (match a with
    | some (.long _) => none
    | some (.double _) => none
    | x => x) :: dc_st1 r 0 v
  | a :: r, i + 2, v => a :: dc_st1 r (i + 1) v
/-- a long into two locals -/
def dc_st2 (ls : List (Option Value)) (i : Nat) (v : Value) : List (Option Value) := (dc_st1 ls i v).set (i + 1) none
theorem dc_st1_get : ∀ (ls : List (Option Value)) (i : Nat) (v : Value) (j : Nat) (w : Value), (dc_st1 ls i v)[j]? = some (some w) → (j = i ∧ w = v) ∨ (j ≠ i ∧ ls[j]? = some (some w) ∧ ¬ (j + 1 = i ∧ w.category = 2)) := by
  intro ls
  induction ls with
  | nil => intro i v j w h; simp [dc_st1] at h
  | cons a r ih =>
    intro i v j w h
    match i, j with
    | 0, 0 => simp [dc_st1] at h; exact Or.inl ⟨rfl, h.symm⟩
    | 0, j + 1 => exact Or.inr ⟨by omega, by simpa [dc_st1] using h, by omega⟩
    | 1, 0 =>
      right
      refine ⟨by omega, ?_, ?_⟩
      · revert h
        simp only [dc_st1]
        split <;> simp
      · rintro ⟨-, hc⟩
        revert h
        simp only [dc_st1]
        split
        · simp
        · simp
        · next x h1 h2 =>
          intro h
          simp at h
          subst h
          cases w with
          | long y => exact h1 y rfl
          | double y => exact h2 y rfl
          | _ => simp [Value.category] at hc
    | 1, j + 1 =>
      have h' : (dc_st1 r 0 v)[j]? = some (some w) := by simpa [dc_st1] using h
      rcases ih 0 v j w h' with ⟨h1, h2⟩ | ⟨h1, h2, h3⟩
      · exact Or.inl ⟨by omega, h2⟩
      · exact Or.inr ⟨by omega, by simpa using h2, by omega⟩
    | i + 2, 0 => exact Or.inr ⟨by omega, by simpa [dc_st1] using h, by omega⟩
    | i + 2, j + 1 =>
      have h' : (dc_st1 r (i + 1) v)[j]? = some (some w) := by simpa [dc_st1] using h
      rcases ih (i + 1) v j w h' with ⟨h1, h2⟩ | ⟨h1, h2, h3⟩
      · exact Or.inl ⟨by omega, h2⟩
      · exact Or.inr ⟨by omega, by simpa using h2, fun q => h3 ⟨by omega, q.2⟩⟩
theorem dc_st2_get : ∀ (ls : List (Option Value)) (i : Nat) (v : Value) (j : Nat) (w : Value), (dc_st2 ls i v)[j]? = some (some w) → (j = i ∧ w = v) ∨ (j ≠ i ∧ j ≠ i + 1 ∧ ls[j]? = some (some w) ∧ ¬ (j + 1 = i ∧ w.category = 2)) := by
  intro ls i v j w h
  unfold dc_st2 at h
  rw [List.getElem?_set] at h
  by_cases e : i + 1 = j
  · rw [if_pos e] at h
    split at h <;> cases h
  · rw [if_neg e] at h
    rcases dc_st1_get ls i v j w h with h1 | ⟨h1, h2, h3⟩
    · exact Or.inl h1
    · exact Or.inr ⟨h1, fun q => e q.symm, h2, h3⟩
theorem dc_LH.st1 {ad : Nat → Nat} {la : Array Slot} {nL i : Nat} {ls : List (Option Value)} {v : Value} (h : lv_has la nL ((i, dc_cv ad v) :: (dc_loc ad ls).filter (fun q => !(q.1 == i) && !(q.1 + 1 == i && q.2.category == 2)))) : dc_LH ad la nL (dc_st1 ls i v) := by
  refine ⟨h.1, h.2.1, fun j w hw => ?_⟩
  rcases dc_st1_get ls i v j w hw with ⟨rfl, rfl⟩ | ⟨h1, h2, h3⟩
  · exact h.2.2 (j, dc_cv ad w) List.mem_cons_self
  · refine h.2.2 (j, dc_cv ad w) (List.mem_cons_of_mem _ (List.mem_filter.mpr ⟨dc_loc_mem.mpr ⟨w, h2, rfl⟩, ?_⟩))
    simp only [dc_cv_cat]
    by_cases e : j + 1 = i
    · have h4 : ¬ w.category = 2 := fun q => h3 ⟨e, q⟩
      simp [h1, h4]
    · simp [h1, e]
theorem dc_LH.st2 {ad : Nat → Nat} {la : Array Slot} {nL i : Nat} {ls : List (Option Value)} {v : Value} (h : lv_has la nL ((i, dc_cv ad v) :: (dc_loc ad ls).filter (fun q => !(q.1 == i) && (!(q.1 == i + 1) && !(q.1 + 1 == i && q.2.category == 2))))) : dc_LH ad la nL (dc_st2 ls i v) := by
  refine ⟨h.1, h.2.1, fun j w hw => ?_⟩
  rcases dc_st2_get ls i v j w hw with ⟨rfl, rfl⟩ | ⟨h1, h0, h2, h3⟩
  · exact h.2.2 (j, dc_cv ad w) List.mem_cons_self
  · refine h.2.2 (j, dc_cv ad w) (List.mem_cons_of_mem _ (List.mem_filter.mpr ⟨dc_loc_mem.mpr ⟨w, h2, rfl⟩, ?_⟩))
    simp only [dc_cv_cat]
    by_cases e : j + 1 = i
    · have h4 : ¬ w.category = 2 := fun q => h3 ⟨e, q⟩
      simp [h1, h0, h4]
    · simp [h1, h0, e]
def dc_ini : List Value → List (Option Value)
  | [] => []
  | v :: vs => if v.category = 2 then some v :: none :: dc_ini vs else some v :: dc_ini vs
theorem dc_ini_get (ad : Nat → Nat) : ∀ (vs : List Value) (i0 i : Nat) (v : Value), (dc_ini vs)[i]? = some (some v) → (i0 + i, dc_cv ad v) ∈ lv_args i0 (vs.map (dc_cv ad)) := by
  intro vs
  induction vs with
  | nil => intro i0 i v h; simp [dc_ini] at h
  | cons a r ih =>
    intro i0 i v h
    simp only [List.map_cons, lv_args, dc_cv_cat]
    by_cases hc : a.category = 2
    · simp only [dc_ini, hc, if_true] at h ⊢
      match i with
      | 0 => simp at h; subst h; exact List.mem_cons_self
      | 1 => simp at h
      | i + 2 =>
        have := ih (i0 + 2) i v (by simpa using h)
        rw [show i0 + 2 + i = i0 + (i + 2) by omega] at this
        exact List.mem_cons_of_mem _ this
    · simp only [dc_ini, hc, if_false] at h ⊢
      match i with
      | 0 => simp at h; subst h; exact List.mem_cons_self
      | i + 1 =>
        have := ih (i0 + 1) i v (by simpa using h)
        rw [show i0 + 1 + i = i0 + (i + 1) by omega] at this
        exact List.mem_cons_of_mem _ this
/-- the locals with which a method begins -/
def dc_pad (nL : Nat) (vs : List Value) : List (Option Value) := dc_ini vs ++ List.replicate (nL - (dc_ini vs).length) none
theorem dc_pad_get {nL : Nat} {vs : List Value} {i : Nat} {v : Value} (h : (dc_pad nL vs)[i]? = some (some v)) : (dc_ini vs)[i]? = some (some v) := by
  unfold dc_pad at h
  rw [List.getElem?_append] at h
  split at h
  · exact h
  · have := List.eq_of_mem_replicate (List.mem_of_getElem? h)
    cases this
