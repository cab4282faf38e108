/-! the world behind both constructors is the layout, all numbers 0 -/
def dl_mi {α β : Type} (f : Nat → α → β) : Nat → List α → List β
  | _, [] => []
  | k, a :: l => f k a :: dl_mi f (k + 1) l
theorem dl_mi_eq {α β : Type} : ∀ (l : List α) (k : Nat) (f : Nat → α → β), dl_mi f k l = l.mapIdx (fun i a => f (k + i) a) := by
  intro l
  induction l with
  | nil => intro k f; rfl
  | cons a l ih =>
    intro k f
    rw [dl_mi, ih, List.mapIdx_cons]
    congr 1
    congr 1
    funext i b
    congr 1
    omega
theorem dl_mi_0 {α β : Type} (l : List α) (f : Nat → α → β) : l.mapIdx f = dl_mi f 0 l := by
  rw [dl_mi_eq]
  congr 1
  funext i b
  rw [Nat.zero_add]
def dl_at : List Nat → Nat → Nat
  | [], _ => 0
  | a :: _, 0 => a
  | _ :: l, k + 1 => dl_at l k
def dl_ent (cA : Nat → ClassId) (ad : Nat → Nat) (σ : dc_HP) (k : Nat) (L : dc_L) : va_E := match L with
  | .inl (ci, ks) => .inr (ci, dl_mi (fun j kd => dc_cv ad (dc_val σ k j kd)) 0 ks)
  | .inr (t, n) => .inl (cA t, n, dc_arr σ k t)
theorem dl_ent_eq (cA : Nat → ClassId) (ad : Nat → Nat) (σ : dc_HP) (k : Nat) (L : dc_L) : dc_ent cA ad σ k L = dl_ent cA ad σ k L := by
  cases L with
  | inl x => show (Sum.inr _ : va_E) = Sum.inr _; rw [dl_mi_0]
  | inr x => rfl
theorem dl_ws (cA : Nat → ClassId) (ad : Nat → Nat) (σ : dc_HP) : dc_ws cA ad σ = dl_mi (fun k L => (ad k, dl_ent cA ad σ k L)) 0 dc_lay := by
  unfold dc_ws
  rw [dl_mi_0]
  congr 1
  funext k L
  rw [dl_ent_eq]
def dl_s0 : dc_HP := (fun _ _ => 0, fun _ _ => 0)
abbrev dl_w8 (cA : Nat → ClassId) (h0 q1 q2 q3 q4 q5 q6 q7 q8 q9 q10 q11 q12 q13 q14 q15 q16 q17 q18 q19 q20 q21 q22 q23 q24 q25 q26 q27 q28 q29 q30 q31 q32 q33 q34 q35 q36 q37 q38 q39 q40 q41 q42 q43 q44 q45 q46 q47 q48 q49 q50 q51 q52 q53 q54 : Nat) : va_W := [(h0, .inr (8, [.ref q1, .ref q7, .ref q12, .ref q14, .ref q21, .ref q24, .ref q28, .ref q31, .ref q43])), (q1, .inr (0, [.int 0, .int 0, .int 0, .int 0, .int 0, .ref q2, .ref q3, .ref q4, .ref q5, .ref q6])), (q2, .inl (cA 0, (8, .inl (fun _ => 0)))), (q3, .inl (cA 0, (8, .inl (fun _ => 0)))), (q4, .inl (cA 0, (24, .inl (fun _ => 0)))), (q5, .inl (cA 0, (6, .inl (fun _ => 0)))), (q6, .inl (cA 0, (6, .inl (fun _ => 0)))), (q7, .inr (6, [.int 0, .int 0, .ref q8, .ref q9, .ref q10, .ref q11])), (q8, .inl (cA 0, (8, .inl (fun _ => 0)))), (q9, .inl (cA 0, (8, .inl (fun _ => 0)))), (q10, .inl (cA 0, (100, .inl (fun _ => 0)))), (q11, .inl (cA 0, (19, .inl (fun _ => 0)))), (q12, .inr (4, [.int 0, .ref q13])), (q13, .inl (cA 0, (60, .inl (fun _ => 0)))), (q14, .inr (7, [.ref q15, .int 0, .int 0, .int 0, .int 0, .int 0, .int 0])), (q15, .inr (0, [.int 0, .int 0, .int 0, .int 0, .int 0, .ref q16, .ref q17, .ref q18, .ref q19, .ref q20])), (q16, .inl (cA 0, (8, .inl (fun _ => 0)))), (q17, .inl (cA 0, (8, .inl (fun _ => 0)))), (q18, .inl (cA 0, (24, .inl (fun _ => 0)))), (q19, .inl (cA 0, (6, .inl (fun _ => 0)))), (q20, .inl (cA 0, (6, .inl (fun _ => 0)))), (q21, .inr (3, [.int 0, .int 0, .ref q22, .ref q23])), (q22, .inl (cA 0, (6, .inl (fun _ => 0)))), (q23, .inl (cA 0, (64, .inl (fun _ => 0)))), (q24, .inr (5, [.ref q25, .ref q26, .ref q27, .int 0])), (q25, .inl (cA 0, (4, .inl (fun _ => 0)))), (q26, .inl (cA 0, (4, .inl (fun _ => 0)))), (q27, .inl (cA 0, (4, .inl (fun _ => 0)))), (q28, .inr (1, [.long 0, .int 0, .ref q29, .ref q30])), (q29, .inl (cA 1, (10, .inr (.inl (fun _ => 0))))), (q30, .inl (cA 1, (10, .inr (.inl (fun _ => 0))))), (q31, .inr (2, [.ref q32, .ref q38, .int 0])), (q32, .inr (0, [.int 0, .int 0, .int 0, .int 0, .int 0, .ref q33, .ref q34, .ref q35, .ref q36, .ref q37])), (q33, .inl (cA 0, (8, .inl (fun _ => 0)))), (q34, .inl (cA 0, (8, .inl (fun _ => 0)))), (q35, .inl (cA 0, (24, .inl (fun _ => 0)))), (q36, .inl (cA 0, (6, .inl (fun _ => 0)))), (q37, .inl (cA 0, (6, .inl (fun _ => 0)))), (q38, .inr (6, [.int 0, .int 0, .ref q39, .ref q40, .ref q41, .ref q42])), (q39, .inl (cA 0, (8, .inl (fun _ => 0)))), (q40, .inl (cA 0, (8, .inl (fun _ => 0)))), (q41, .inl (cA 0, (100, .inl (fun _ => 0)))), (q42, .inl (cA 0, (19, .inl (fun _ => 0)))), (q43, .inr (2, [.ref q44, .ref q50, .int 0])), (q44, .inr (0, [.int 0, .int 0, .int 0, .int 0, .int 0, .ref q45, .ref q46, .ref q47, .ref q48, .ref q49])), (q45, .inl (cA 0, (8, .inl (fun _ => 0)))), (q46, .inl (cA 0, (8, .inl (fun _ => 0)))), (q47, .inl (cA 0, (24, .inl (fun _ => 0)))), (q48, .inl (cA 0, (6, .inl (fun _ => 0)))), (q49, .inl (cA 0, (6, .inl (fun _ => 0)))), (q50, .inr (6, [.int 0, .int 0, .ref q51, .ref q52, .ref q53, .ref q54])), (q51, .inl (cA 0, (8, .inl (fun _ => 0)))), (q52, .inl (cA 0, (8, .inl (fun _ => 0)))), (q53, .inl (cA 0, (100, .inl (fun _ => 0)))), (q54, .inl (cA 0, (19, .inl (fun _ => 0))))]
abbrev dl_w9 (cA : Nat → ClassId) (h1 p1 p2 p3 p4 p5 p6 p7 p8 p9 p10 p11 p12 p13 p14 p15 p16 p17 p18 p19 p20 p21 : Nat) : va_W := [(h1, .inr (9, [.int 0, .int 0, .int 0, .int 0, .ref p1, .ref p2, .ref p3, .ref p4, .ref p5, .ref p6, .ref p7, .int 0, .ref p8, .int 0, .ref p9, .ref p10, .ref p11, .int 0, .int 0, .int 0, .ref p12, .int 0, .int 0, .int 0, .int 0, .ref p13, .ref p14, .ref p15, .ref p16, .ref p17, .ref p18, .ref p19, .ref p20, .ref p21, .int 0, .int 0])), (p1, .inl (cA 0, (8, .inl (fun _ => 0)))), (p2, .inl (cA 0, (8, .inl (fun _ => 0)))), (p3, .inl (cA 0, (24, .inl (fun _ => 0)))), (p4, .inl (cA 0, (6, .inl (fun _ => 0)))), (p5, .inl (cA 0, (6, .inl (fun _ => 0)))), (p6, .inl (cA 0, (8, .inl (fun _ => 0)))), (p7, .inl (cA 0, (8, .inl (fun _ => 0)))), (p8, .inl (cA 0, (60, .inl (fun _ => 0)))), (p9, .inl (cA 0, (60, .inl (fun _ => 0)))), (p10, .inl (cA 0, (60, .inl (fun _ => 0)))), (p11, .inl (cA 0, (60, .inl (fun _ => 0)))), (p12, .inl (cA 0, (11, .inl (fun _ => 0)))), (p13, .inl (cA 0, (64, .inl (fun _ => 0)))), (p14, .inl (cA 0, (6, .inl (fun _ => 0)))), (p15, .inl (cA 0, (16, .inl (fun _ => 0)))), (p16, .inl (cA 0, (4, .inl (fun _ => 0)))), (p17, .inl (cA 0, (19, .inl (fun _ => 0)))), (p18, .inl (cA 1, (10, .inr (.inl (fun _ => 0))))), (p19, .inl (cA 1, (10, .inr (.inl (fun _ => 0))))), (p20, .inl (cA 0, (180, .inl (fun _ => 0)))), (p21, .inl (cA 2, (2, .inl (fun _ => 0))))]
abbrev dl_ad (b h0 q1 q2 q3 q4 q5 q6 q7 q8 q9 q10 q11 q12 q13 q14 q15 q16 q17 q18 q19 q20 q21 q22 q23 q24 q25 q26 q27 q28 q29 q30 q31 q32 q33 q34 q35 q36 q37 q38 q39 q40 q41 q42 q43 q44 q45 q46 q47 q48 q49 q50 q51 q52 q53 q54 h1 p1 p2 p3 p4 p5 p6 p7 p8 p9 p10 p11 p12 p13 p14 p15 p16 p17 p18 p19 p20 p21 : Nat) : Nat → Nat := dl_at [h0, q1, q2, q3, q4, q5, q6, q7, q8, q9, q10, q11, q12, q13, q14, q15, q16, q17, q18, q19, q20, q21, q22, q23, q24, q25, q26, q27, q28, q29, q30, q31, q32, q33, q34, q35, q36, q37, q38, q39, q40, q41, q42, q43, q44, q45, q46, q47, q48, q49, q50, q51, q52, q53, q54, h1, p1, p2, p3, p4, p5, p6, p7, p8, p9, p10, p11, p12, p13, p14, p15, p16, p17, p18, p19, p20, p21, b]
set_option maxHeartbeats 4000000 in
set_option maxRecDepth 100000 in
theorem dl_world (cA : Nat → ClassId) (b h0 q1 q2 q3 q4 q5 q6 q7 q8 q9 q10 q11 q12 q13 q14 q15 q16 q17 q18 q19 q20 q21 q22 q23 q24 q25 q26 q27 q28 q29 q30 q31 q32 q33 q34 q35 q36 q37 q38 q39 q40 q41 q42 q43 q44 q45 q46 q47 q48 q49 q50 q51 q52 q53 q54 h1 p1 p2 p3 p4 p5 p6 p7 p8 p9 p10 p11 p12 p13 p14 p15 p16 p17 p18 p19 p20 p21 : Nat) : dl_mi (fun k L => (dl_ad b h0 q1 q2 q3 q4 q5 q6 q7 q8 q9 q10 q11 q12 q13 q14 q15 q16 q17 q18 q19 q20 q21 q22 q23 q24 q25 q26 q27 q28 q29 q30 q31 q32 q33 q34 q35 q36 q37 q38 q39 q40 q41 q42 q43 q44 q45 q46 q47 q48 q49 q50 q51 q52 q53 q54 h1 p1 p2 p3 p4 p5 p6 p7 p8 p9 p10 p11 p12 p13 p14 p15 p16 p17 p18 p19 p20 p21 k, dl_ent cA (dl_ad b h0 q1 q2 q3 q4 q5 q6 q7 q8 q9 q10 q11 q12 q13 q14 q15 q16 q17 q18 q19 q20 q21 q22 q23 q24 q25 q26 q27 q28 q29 q30 q31 q32 q33 q34 q35 q36 q37 q38 q39 q40 q41 q42 q43 q44 q45 q46 q47 q48 q49 q50 q51 q52 q53 q54 h1 p1 p2 p3 p4 p5 p6 p7 p8 p9 p10 p11 p12 p13 p14 p15 p16 p17 p18 p19 p20 p21) dl_s0 k L)) 0 dc_lay = dl_w8 cA h0 q1 q2 q3 q4 q5 q6 q7 q8 q9 q10 q11 q12 q13 q14 q15 q16 q17 q18 q19 q20 q21 q22 q23 q24 q25 q26 q27 q28 q29 q30 q31 q32 q33 q34 q35 q36 q37 q38 q39 q40 q41 q42 q43 q44 q45 q46 q47 q48 q49 q50 q51 q52 q53 q54 ++ dl_w9 cA h1 p1 p2 p3 p4 p5 p6 p7 p8 p9 p10 p11 p12 p13 p14 p15 p16 p17 p18 p19 p20 p21 := rfl
