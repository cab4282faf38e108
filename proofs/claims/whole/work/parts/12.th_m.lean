set_option maxHeartbeats 4000000 in
set_option maxRecDepth 100000 in
theorem th_X9_in {σ : dc_HP} {x0 : Int64} {x2 : Int64} {x4 : Int64} {r : Int32} (h : fn_X9_in x0 x2 x4 = some r) : dc_G mX9_in [.long x0, .long x2, .long x4] σ (dc_qi (fun x τ => x = r ∧ τ = σ)) := by
  intro κ hO
  have hx : dc_Cx κ RX9 cX9_in 6 0 0 := hO.1
  show dc_X κ 0 [some (.long x0), none, some (.long x2), none, some (.long x4), none] [] σ
  unfold fn_X9_in at h
  refine dx_lload_n (pc := 0) hx dX9_in_0 rfl ?_
  refine dx_lload_n (pc := 1) hx dX9_in_1 rfl ?_
  refine dx_lcmp (pc := 2) hx dX9_in_2 ?_
  refine dx_if_lt (pc := 3) hx dX9_in_3 (tgt := 17) (by decide) (fun c3 => ?_) (fun c3 => ?_)
  · replace h := (if_pos c3).symm.trans h
    refine dx_iconst (pc := 17) hx dX9_in_17 kc_0 ?_
    obtain rfl := Option.some.inj h
    exact dx_zret hO (pc := 18) dX9_in_18 rfl rfl ⟨_, rfl, rfl, rfl⟩
  · replace h := (if_neg c3).symm.trans h
    refine dx_lload_n (pc := 6) hx dX9_in_6 rfl ?_
    refine dx_lload (pc := 7) hx dX9_in_7 rfl ?_
    refine dx_lcmp (pc := 9) hx dX9_in_9 ?_
    refine dx_if_gt (pc := 10) hx dX9_in_10 (tgt := 17) (by decide) (fun c10 => ?_) (fun c10 => ?_)
    · replace h := (if_pos c10).symm.trans h
      refine dx_iconst (pc := 17) hx dX9_in_17 kc_0 ?_
      obtain rfl := Option.some.inj h
      exact dx_zret hO (pc := 18) dX9_in_18 rfl rfl ⟨_, rfl, rfl, rfl⟩
    · replace h := (if_neg c10).symm.trans h
      refine dx_iconst (pc := 13) hx dX9_in_13 kc_1 ?_
      refine dx_goto (pc := 14) hx dX9_in_14 (tgt := 18) (by decide) ?_
      obtain rfl := Option.some.inj h
      exact dx_zret hO (pc := 18) dX9_in_18 rfl rfl ⟨_, rfl, rfl, rfl⟩
set_option maxHeartbeats 4000000 in
set_option maxRecDepth 100000 in
theorem tl_X9_bitsOf_L4 {κ : dc_KX} {Q : Option Value → dc_HP → Prop} (hO : dc_Ok κ mX9_bitsOf Q) (σ : dc_HP) : ∀ (n : Nat) (x1 : Int32) (x2 : Int32) (q : Int32), fn_X9_bitsOf_L4 n x1 x2 = some q → ∀ (hk : dc_X κ 20 [none, some (.int q), none] [] σ), dc_X κ 4 [none, some (.int x1), some (.int x2)] [] σ := by
  have hx : dc_Cx κ RX9 cX9_bitsOf 3 0 0 := hO.1
  intro n
  induction n with
  | zero =>
    intro x1 x2 q h
    cases h
  | succ n ih =>
    intro x1 x2 q h hk
    unfold fn_X9_bitsOf_L4 at h
    refine dx_iload_n (pc := 4) hx dX9_bitsOf_4 rfl ?_
    refine dx_if_eq (pc := 5) hx dX9_bitsOf_5 (tgt := 20) (by decide) (fun c5 => ?_) (fun c5 => ?_)
    · replace h := (if_pos c5).symm.trans h
      obtain rfl := Option.some.inj h
      exact dx_wk [true, true, false] <| hk
    · replace h := (if_neg c5).symm.trans h
      refine dx_iinc (pc := 8) hx dX9_bitsOf_8 rfl (v := x1 + nI 1) (congrArg (fun z => x1 + z) kc_1) (dc_le rfl) (ls' := [none, some (.int (x1 + nI 1)), some (.int x2)]) rfl ?_
      refine dx_iload_n (pc := 11) hx dX9_bitsOf_11 rfl ?_
      refine dx_iload_n (pc := 12) hx dX9_bitsOf_12 rfl ?_
      refine dx_iconst (pc := 13) hx dX9_bitsOf_13 kc_1 ?_
      refine dx_isub (pc := 14) hx dX9_bitsOf_14 ?_
      refine dx_iand (pc := 15) hx dX9_bitsOf_15 ?_
      refine dx_istore_n (pc := 16) hx dX9_bitsOf_16 (dc_le rfl) (ls' := [none, some (.int (x1 + nI 1)), some (.int (x2 &&& (x2 - (nI 1))))]) rfl ?_
      refine dx_goto (pc := 17) hx dX9_bitsOf_17 (tgt := 4) (by decide) ?_
      exact (ih (x1 + nI 1) (x2 &&& (x2 - (nI 1))) q h hk)
set_option maxHeartbeats 4000000 in
set_option maxRecDepth 100000 in
theorem th_X9_bitsOf {σ : dc_HP} {x0 : Int32} {r : Int32} (h : fn_X9_bitsOf x0 = some r) : dc_G mX9_bitsOf [.int x0] σ (dc_qi (fun x τ => x = r ∧ τ = σ)) := by
  intro κ hO
  have hx : dc_Cx κ RX9 cX9_bitsOf 3 0 0 := hO.1
  show dc_X κ 0 [some (.int x0), none, none] [] σ
  unfold fn_X9_bitsOf at h
  refine dx_iconst (pc := 0) hx dX9_bitsOf_0 kc_0 ?_
  refine dx_istore_n (pc := 1) hx dX9_bitsOf_1 (dc_le rfl) (ls' := [some (.int x0), some (.int (nI 0)), none]) rfl ?_
  refine dx_iload_n (pc := 2) hx dX9_bitsOf_2 rfl ?_
  refine dx_istore_n (pc := 3) hx dX9_bitsOf_3 (dc_le rfl) (ls' := [some (.int x0), some (.int (nI 0)), some (.int x0)]) rfl ?_
  obtain ⟨q4, h4, h⟩ := Option.bind_eq_some_iff.mp h
  refine dx_wk [false, true, true] <| (tl_X9_bitsOf_L4 hO σ  200 (nI 0) x0 q4 h4 ?_)
  refine dx_iload_n (pc := 20) hx dX9_bitsOf_20 rfl ?_
  obtain rfl := Option.some.inj h
  exact dx_iret hO (pc := 21) dX9_bitsOf_21 rfl ⟨_, rfl, rfl, rfl⟩
set_option maxHeartbeats 4000000 in
set_option maxRecDepth 100000 in
theorem th_X9_singer {σ : dc_HP} {x1 : Int32} {x2 : Int32} {x3 : Int32} {r : Int32 × dc_HP} (h : fn_X9_singer σ x1 x2 x3 = some r) : dc_G mX9_singer [.ref 55, .int x1, .int x2, .int x3] σ (dc_qi (fun x τ => x = r.1 ∧ τ = r.2)) := by
  intro κ hO
  have hx : dc_Cx κ RX9 cX9_singer 4 1 25 := hO.1
  show dc_X κ 0 [some (.ref 55), some (.int x1), some (.int x2), some (.int x3)] [] σ
  unfold fn_X9_singer at h
  refine dx_iload_n (pc := 0) hx dX9_singer_0 rfl ?_
  refine dx_i2l (pc := 1) hx dX9_singer_1 ?_
  refine dx_lconst (pc := 2) hx dX9_singer_2 (v := (0 : Int64)) (by decide) ?_
  refine dx_ldc2 (pc := 3) hx dX9_singer_3 f_X9_75 ?_
  obtain ⟨r6, h6, h⟩ := Option.bind_eq_some_iff.mp h
  refine dx_callSir (pc := 6) (As := [.long x1.toInt64, .long ((0 : Int64)), .long ((7 : Int64))]) (rest := []) hx dX9_singer_6 k_X9_77 rfl (dc_le rfl) (dc_le rfl) (dc_le rfl) (dc_le rfl) rfl (th_X9_in h6) ?_
  refine dx_if_ne (pc := 9) hx dX9_singer_9 (tgt := 14) (by decide) (fun c9 => ?_) (fun c9 => ?_)
  · replace h := (if_neg c9).symm.trans h
    refine dx_iload_n (pc := 14) hx dX9_singer_14 rfl ?_
    refine dx_i2l (pc := 15) hx dX9_singer_15 ?_
    refine dx_lconst (pc := 16) hx dX9_singer_16 (v := (0 : Int64)) (by decide) ?_
    refine dx_ldc2 (pc := 17) hx dX9_singer_17 f_X9_85 ?_
    obtain ⟨r20, h20, h⟩ := Option.bind_eq_some_iff.mp h
    refine dx_callSir (pc := 20) (As := [.long x2.toInt64, .long ((0 : Int64)), .long ((3 : Int64))]) (rest := []) hx dX9_singer_20 k_X9_77 rfl (dc_le rfl) (dc_le rfl) (dc_le rfl) (dc_le rfl) rfl (th_X9_in h20) ?_
    refine dx_if_eq (pc := 23) hx dX9_singer_23 (tgt := 38) (by decide) (fun c23 => ?_) (fun c23 => ?_)
    · replace h := (if_pos c23).symm.trans h
      refine dx_bipush (pc := 38) hx dX9_singer_38 kb_m2 ?_
      obtain rfl := Option.some.inj h
      exact dx_iret hO (pc := 40) dX9_singer_40 rfl ⟨_, rfl, rfl, rfl⟩
    · replace h := (if_neg c23).symm.trans h
      refine dx_iload_n (pc := 26) hx dX9_singer_26 rfl ?_
      refine dx_i2l (pc := 27) hx dX9_singer_27 ?_
      refine dx_lconst (pc := 28) hx dX9_singer_28 (v := (0 : Int64)) (by decide) ?_
      refine dx_ldc2 (pc := 29) hx dX9_singer_29 f_X9_87 ?_
      obtain ⟨r32, h32, h⟩ := Option.bind_eq_some_iff.mp h
      refine dx_callSir (pc := 32) (As := [.long x3.toInt64, .long ((0 : Int64)), .long ((999 : Int64))]) (rest := []) hx dX9_singer_32 k_X9_77 rfl (dc_le rfl) (dc_le rfl) (dc_le rfl) (dc_le rfl) rfl (th_X9_in h32) ?_
      refine dx_if_ne (pc := 35) hx dX9_singer_35 (tgt := 41) (by decide) (fun c35 => ?_) (fun c35 => ?_)
      · replace h := (if_neg c35).symm.trans h
        refine dx_aload_n (pc := 41) hx dX9_singer_41 rfl ?_
        refine dx_dup (pc := 42) hx dX9_singer_42 rfl ?_
        refine dx_getI (pc := 43) hx dX9_singer_43 f_X9_81 rfl rfl ?_
        refine dx_iconst (pc := 46) hx dX9_singer_46 kc_1 ?_
        refine dx_iload_n (pc := 47) hx dX9_singer_47 rfl ?_
        refine dx_ishl (pc := 48) hx dX9_singer_48 ?_
        refine dx_ior (pc := 49) hx dX9_singer_49 ?_
        refine dx_putI (pc := 50) hx dX9_singer_50 f_X9_81 rfl rfl tyX9_ok rfl (Or.inl ⟨rfl, rfl⟩) ?_
        refine dx_nm (fun s50 e50 => ?_)
        replace h := dc_lt e50 h
        refine dx_aload_n (pc := 53) hx dX9_singer_53 rfl ?_
        refine dx_dup (pc := 54) hx dX9_singer_54 rfl ?_
        refine dx_getI (pc := 55) hx dX9_singer_55 f_X9_89 rfl rfl ?_
        refine dx_iconst (pc := 58) hx dX9_singer_58 kc_1 ?_
        refine dx_iload_n (pc := 59) hx dX9_singer_59 rfl ?_
        refine dx_ishl (pc := 60) hx dX9_singer_60 ?_
        refine dx_iconst (pc := 61) hx dX9_singer_61 kc_m1 ?_
        refine dx_ixor (pc := 62) hx dX9_singer_62 ?_
        refine dx_iand (pc := 63) hx dX9_singer_63 ?_
        refine dx_putI (pc := 64) hx dX9_singer_64 f_X9_89 rfl rfl tyX9_ok rfl (Or.inl ⟨rfl, rfl⟩) ?_
        refine dx_nm (fun s64 e64 => ?_)
        replace h := dc_lt e64 h
        refine dx_aload_n (pc := 67) hx dX9_singer_67 rfl ?_
        refine dx_dup (pc := 68) hx dX9_singer_68 rfl ?_
        refine dx_getI (pc := 69) hx dX9_singer_69 f_X9_92 rfl rfl ?_
        refine dx_iconst (pc := 72) hx dX9_singer_72 kc_1 ?_
        refine dx_iload_n (pc := 73) hx dX9_singer_73 rfl ?_
        refine dx_ishl (pc := 74) hx dX9_singer_74 ?_
        refine dx_iconst (pc := 75) hx dX9_singer_75 kc_m1 ?_
        refine dx_ixor (pc := 76) hx dX9_singer_76 ?_
        refine dx_iand (pc := 77) hx dX9_singer_77 ?_
        refine dx_putI (pc := 78) hx dX9_singer_78 f_X9_92 rfl rfl tyX9_ok rfl (Or.inl ⟨rfl, rfl⟩) ?_
        refine dx_nm (fun s78 e78 => ?_)
        replace h := dc_lt e78 h
        refine dx_aload_n (pc := 81) hx dX9_singer_81 rfl ?_
        refine dx_getR (r := 56) (pc := 82) hx dX9_singer_82 f_X9_7 rfl rfl ?_
        refine dx_iload_n (pc := 85) hx dX9_singer_85 rfl ?_
        refine dx_iload_n (pc := 86) hx dX9_singer_86 rfl ?_
        by_cases g87 : x1 < 0 ∨ 8 ≤ x1.toNatClampNeg
        · cases (if_pos g87).symm.trans h
        replace h := (if_neg g87).symm.trans h
        refine dx_iast (pc := 87) hx dX9_singer_87 rfl g87 ?_
        refine dx_nm (fun s87 e87 => ?_)
        replace h := dc_lt e87 h
        refine dx_aload_n (pc := 88) hx dX9_singer_88 rfl ?_
        refine dx_getR (r := 57) (pc := 89) hx dX9_singer_89 f_X9_13 rfl rfl ?_
        refine dx_iload_n (pc := 92) hx dX9_singer_92 rfl ?_
        refine dx_iload_n (pc := 93) hx dX9_singer_93 rfl ?_
        by_cases g94 : x1 < 0 ∨ 8 ≤ x1.toNatClampNeg
        · cases (if_pos g94).symm.trans h
        replace h := (if_neg g94).symm.trans h
        refine dx_iast (pc := 94) hx dX9_singer_94 rfl g94 ?_
        refine dx_nm (fun s94 e94 => ?_)
        replace h := dc_lt e94 h
        refine dx_aload_n (pc := 95) hx dX9_singer_95 rfl ?_
        refine dx_getI (pc := 96) hx dX9_singer_96 f_X9_81 rfl rfl ?_
        obtain ⟨r99, h99, h⟩ := Option.bind_eq_some_iff.mp h
        refine dx_callSir (pc := 99) (As := [.int (s94.1 55 0)]) (rest := []) hx dX9_singer_99 k_X9_95 rfl (dc_le rfl) (dc_le rfl) (dc_le rfl) (dc_le rfl) rfl (th_X9_bitsOf h99) ?_
        obtain rfl := Option.some.inj h
        exact dx_iret hO (pc := 102) dX9_singer_102 rfl ⟨_, rfl, rfl, rfl⟩
      · replace h := (if_pos c35).symm.trans h
        refine dx_bipush (pc := 38) hx dX9_singer_38 kb_m2 ?_
        obtain rfl := Option.some.inj h
        exact dx_iret hO (pc := 40) dX9_singer_40 rfl ⟨_, rfl, rfl, rfl⟩
  · replace h := (if_pos c9).symm.trans h
    refine dx_iconst (pc := 12) hx dX9_singer_12 kc_m1 ?_
    obtain rfl := Option.some.inj h
    exact dx_iret hO (pc := 13) dX9_singer_13 rfl ⟨_, rfl, rfl, rfl⟩
set_option maxHeartbeats 4000000 in
set_option maxRecDepth 100000 in
theorem th_X9_isSinger {σ : dc_HP} {x1 : Int32} {r : Int32} (h : fn_X9_isSinger σ x1 = some r) : dc_G mX9_isSinger [.ref 55, .int x1] σ (dc_qi (fun x τ => x = r ∧ τ = σ)) := by
  intro κ hO
  have hx : dc_Cx κ RX9 cX9_isSinger 2 1 25 := hO.1
  show dc_X κ 0 [some (.ref 55), some (.int x1)] [] σ
  unfold fn_X9_isSinger at h
  refine dx_iload_n (pc := 0) hx dX9_isSinger_0 rfl ?_
  refine dx_i2l (pc := 1) hx dX9_isSinger_1 ?_
  refine dx_lconst (pc := 2) hx dX9_isSinger_2 (v := (0 : Int64)) (by decide) ?_
  refine dx_ldc2 (pc := 3) hx dX9_isSinger_3 f_X9_75 ?_
  obtain ⟨r6, h6, h⟩ := Option.bind_eq_some_iff.mp h
  refine dx_callSir (pc := 6) (As := [.long x1.toInt64, .long ((0 : Int64)), .long ((7 : Int64))]) (rest := []) hx dX9_isSinger_6 k_X9_77 rfl (dc_le rfl) (dc_le rfl) (dc_le rfl) (dc_le rfl) rfl (th_X9_in h6) ?_
  refine dx_if_eq (pc := 9) hx dX9_isSinger_9 (tgt := 28) (by decide) (fun c9 => ?_) (fun c9 => ?_)
  · replace h := (if_pos c9).symm.trans h
    refine dx_iconst (pc := 28) hx dX9_isSinger_28 kc_0 ?_
    obtain rfl := Option.some.inj h
    exact dx_zret hO (pc := 29) dX9_isSinger_29 rfl rfl ⟨_, rfl, rfl, rfl⟩
  · replace h := (if_neg c9).symm.trans h
    refine dx_aload_n (pc := 12) hx dX9_isSinger_12 rfl ?_
    refine dx_getI (pc := 13) hx dX9_isSinger_13 f_X9_81 rfl rfl ?_
    refine dx_iload_n (pc := 16) hx dX9_isSinger_16 rfl ?_
    refine dx_ishr (pc := 17) hx dX9_isSinger_17 ?_
    refine dx_iconst (pc := 18) hx dX9_isSinger_18 kc_1 ?_
    refine dx_iand (pc := 19) hx dX9_isSinger_19 ?_
    refine dx_iconst (pc := 20) hx dX9_isSinger_20 kc_1 ?_
    refine dx_icmp_ne (pc := 21) hx dX9_isSinger_21 (tgt := 28) (by decide) (fun c21 => ?_) (fun c21 => ?_)
    · replace h := (if_neg c21).symm.trans h
      refine dx_iconst (pc := 28) hx dX9_isSinger_28 kc_0 ?_
      obtain rfl := Option.some.inj h
      exact dx_zret hO (pc := 29) dX9_isSinger_29 rfl rfl ⟨_, rfl, rfl, rfl⟩
    · replace h := (if_pos c21).symm.trans h
      refine dx_iconst (pc := 24) hx dX9_isSinger_24 kc_1 ?_
      refine dx_goto (pc := 25) hx dX9_isSinger_25 (tgt := 29) (by decide) ?_
      obtain rfl := Option.some.inj h
      exact dx_zret hO (pc := 29) dX9_isSinger_29 rfl rfl ⟨_, rfl, rfl, rfl⟩
set_option maxHeartbeats 4000000 in
set_option maxRecDepth 100000 in
theorem th_X9_leave {σ : dc_HP} {x1 : Int32} {r : Int32 × dc_HP} (h : fn_X9_leave σ x1 = some r) : dc_G mX9_leave [.ref 55, .int x1] σ (dc_qi (fun x τ => x = r.1 ∧ τ = r.2)) := by
  intro κ hO
  have hx : dc_Cx κ RX9 cX9_leave 2 2 46 := hO.1
  show dc_X κ 0 [some (.ref 55), some (.int x1)] [] σ
  unfold fn_X9_leave at h
  refine dx_aload_n (pc := 0) hx dX9_leave_0 rfl ?_
  refine dx_iload_n (pc := 1) hx dX9_leave_1 rfl ?_
  obtain ⟨r2, h2, h⟩ := Option.bind_eq_some_iff.mp h
  refine dx_callVir (pc := 2) (As := [.int x1]) (rest := []) hx dX9_leave_2 k_X9_99 rfl rfl rfl rfl (dc_le rfl) (dc_le rfl) (dc_le rfl) (dc_le rfl) rfl (th_X9_isSinger h2) ?_
  refine dx_if_ne (pc := 5) hx dX9_leave_5 (tgt := 10) (by decide) (fun c5 => ?_) (fun c5 => ?_)
  · replace h := (if_neg c5).symm.trans h
    refine dx_aload_n (pc := 10) hx dX9_leave_10 rfl ?_
    refine dx_dup (pc := 11) hx dX9_leave_11 rfl ?_
    refine dx_getI (pc := 12) hx dX9_leave_12 f_X9_81 rfl rfl ?_
    refine dx_iconst (pc := 15) hx dX9_leave_15 kc_1 ?_
    refine dx_iload_n (pc := 16) hx dX9_leave_16 rfl ?_
    refine dx_ishl (pc := 17) hx dX9_leave_17 ?_
    refine dx_iconst (pc := 18) hx dX9_leave_18 kc_m1 ?_
    refine dx_ixor (pc := 19) hx dX9_leave_19 ?_
    refine dx_iand (pc := 20) hx dX9_leave_20 ?_
    refine dx_putI (pc := 21) hx dX9_leave_21 f_X9_81 rfl rfl tyX9_ok rfl (Or.inl ⟨rfl, rfl⟩) ?_
    refine dx_nm (fun s21 e21 => ?_)
    replace h := dc_lt e21 h
    refine dx_aload_n (pc := 24) hx dX9_leave_24 rfl ?_
    refine dx_getI (pc := 25) hx dX9_leave_25 f_X9_81 rfl rfl ?_
    obtain ⟨r28, h28, h⟩ := Option.bind_eq_some_iff.mp h
    refine dx_callSir (pc := 28) (As := [.int (s21.1 55 0)]) (rest := []) hx dX9_leave_28 k_X9_95 rfl (dc_le rfl) (dc_le rfl) (dc_le rfl) (dc_le rfl) rfl (th_X9_bitsOf h28) ?_
    obtain rfl := Option.some.inj h
    exact dx_iret hO (pc := 31) dX9_leave_31 rfl ⟨_, rfl, rfl, rfl⟩
  · replace h := (if_pos c5).symm.trans h
    refine dx_iconst (pc := 8) hx dX9_leave_8 kc_m1 ?_
    obtain rfl := Option.some.inj h
    exact dx_iret hO (pc := 9) dX9_leave_9 rfl ⟨_, rfl, rfl, rfl⟩
set_option maxHeartbeats 4000000 in
set_option maxRecDepth 100000 in
theorem tl_X9_areNeeds_L14 {κ : dc_KX} {Q : Option Value → dc_HP → Prop} (hO : dc_Ok κ mX9_areNeeds Q) (σ : dc_HP) : ∀ (n : Nat) (x1 : Int32) (x2 : Int32) (x3 : Int32) (q : Int32), fn_X9_areNeeds_L14 n x1 x2 x3 = some q → ∀ (hk : dc_X κ 55 [none, some (.int q), none, none] [] σ), dc_X κ 14 [none, some (.int x1), some (.int x2), some (.int x3)] [] σ := by
  have hx : dc_Cx κ RX9 cX9_areNeeds 4 1 25 := hO.1
  intro n
  induction n with
  | zero =>
    intro x1 x2 x3 q h
    cases h
  | succ n ih =>
    intro x1 x2 x3 q h hk
    unfold fn_X9_areNeeds_L14 at h
    refine dx_iload_n (pc := 14) hx dX9_areNeeds_14 rfl ?_
    refine dx_iconst (pc := 15) hx dX9_areNeeds_15 kc_4 ?_
    refine dx_icmp_ge (pc := 16) hx dX9_areNeeds_16 (tgt := 55) (by decide) (fun c16 => ?_) (fun c16 => ?_)
    · replace h := (if_pos c16).symm.trans h
      obtain rfl := Option.some.inj h
      exact dx_wk [true, true, false, false] <| hk
    · replace h := (if_neg c16).symm.trans h
      refine dx_iload_n (pc := 19) hx dX9_areNeeds_19 rfl ?_
      refine dx_if_eq (pc := 20) hx dX9_areNeeds_20 (tgt := 42) (by decide) (fun c20 => ?_) (fun c20 => ?_)
      · replace h := (if_pos c20).symm.trans h
        refine dx_iconst (pc := 42) hx dX9_areNeeds_42 kc_0 ?_
        refine dx_istore_n (pc := 43) hx dX9_areNeeds_43 (dc_le rfl) (ls' := [none, some (.int (nI 0)), some (.int x2), some (.int x3)]) rfl ?_
        refine dx_iload_n (pc := 44) hx dX9_areNeeds_44 rfl ?_
        refine dx_bipush (pc := 45) hx dX9_areNeeds_45 kb_10 ?_
        refine dx_idiv (pc := 47) hx dX9_areNeeds_47 (by decide) ?_
        refine dx_istore_n (pc := 48) hx dX9_areNeeds_48 (dc_le rfl) (ls' := [none, some (.int (nI 0)), some (.int (x2 / (nI 10))), some (.int x3)]) rfl ?_
        refine dx_iinc (pc := 49) hx dX9_areNeeds_49 rfl (v := x3 + nI 1) (congrArg (fun z => x3 + z) kc_1) (dc_le rfl) (ls' := [none, some (.int (nI 0)), some (.int (x2 / (nI 10))), some (.int (x3 + nI 1))]) rfl ?_
        refine dx_goto (pc := 52) hx dX9_areNeeds_52 (tgt := 14) (by decide) ?_
        exact (ih (nI 0) (x2 / (nI 10)) (x3 + nI 1) q h hk)
      · replace h := (if_neg c20).symm.trans h
        refine dx_iload_n (pc := 23) hx dX9_areNeeds_23 rfl ?_
        refine dx_bipush (pc := 24) hx dX9_areNeeds_24 kb_10 ?_
        refine dx_irem (pc := 26) hx dX9_areNeeds_26 (by decide) ?_
        refine dx_i2l (pc := 27) hx dX9_areNeeds_27 ?_
        refine dx_lconst (pc := 28) hx dX9_areNeeds_28 (v := (0 : Int64)) (by decide) ?_
        refine dx_ldc2 (pc := 29) hx dX9_areNeeds_29 f_X9_85 ?_
        obtain ⟨r32, h32, h⟩ := Option.bind_eq_some_iff.mp h
        refine dx_callSir (pc := 32) (As := [.long ((x2 - x2 / (nI 10) * (nI 10)).toInt64), .long ((0 : Int64)), .long ((3 : Int64))]) (rest := []) hx dX9_areNeeds_32 k_X9_77 rfl (dc_le rfl) (dc_le rfl) (dc_le rfl) (dc_le rfl) rfl (th_X9_in h32) ?_
        refine dx_if_eq (pc := 35) hx dX9_areNeeds_35 (tgt := 42) (by decide) (fun c35 => ?_) (fun c35 => ?_)
        · replace h := (if_pos c35).symm.trans h
          refine dx_iconst (pc := 42) hx dX9_areNeeds_42 kc_0 ?_
          refine dx_istore_n (pc := 43) hx dX9_areNeeds_43 (dc_le rfl) (ls' := [none, some (.int (nI 0)), some (.int x2), some (.int x3)]) rfl ?_
          refine dx_iload_n (pc := 44) hx dX9_areNeeds_44 rfl ?_
          refine dx_bipush (pc := 45) hx dX9_areNeeds_45 kb_10 ?_
          refine dx_idiv (pc := 47) hx dX9_areNeeds_47 (by decide) ?_
          refine dx_istore_n (pc := 48) hx dX9_areNeeds_48 (dc_le rfl) (ls' := [none, some (.int (nI 0)), some (.int (x2 / (nI 10))), some (.int x3)]) rfl ?_
          refine dx_iinc (pc := 49) hx dX9_areNeeds_49 rfl (v := x3 + nI 1) (congrArg (fun z => x3 + z) kc_1) (dc_le rfl) (ls' := [none, some (.int (nI 0)), some (.int (x2 / (nI 10))), some (.int (x3 + nI 1))]) rfl ?_
          refine dx_goto (pc := 52) hx dX9_areNeeds_52 (tgt := 14) (by decide) ?_
          exact (ih (nI 0) (x2 / (nI 10)) (x3 + nI 1) q h hk)
        · replace h := (if_neg c35).symm.trans h
          refine dx_iconst (pc := 38) hx dX9_areNeeds_38 kc_1 ?_
          refine dx_goto (pc := 39) hx dX9_areNeeds_39 (tgt := 43) (by decide) ?_
          refine dx_istore_n (pc := 43) hx dX9_areNeeds_43 (dc_le rfl) (ls' := [none, some (.int (nI 1)), some (.int x2), some (.int x3)]) rfl ?_
          refine dx_iload_n (pc := 44) hx dX9_areNeeds_44 rfl ?_
          refine dx_bipush (pc := 45) hx dX9_areNeeds_45 kb_10 ?_
          refine dx_idiv (pc := 47) hx dX9_areNeeds_47 (by decide) ?_
          refine dx_istore_n (pc := 48) hx dX9_areNeeds_48 (dc_le rfl) (ls' := [none, some (.int (nI 1)), some (.int (x2 / (nI 10))), some (.int x3)]) rfl ?_
          refine dx_iinc (pc := 49) hx dX9_areNeeds_49 rfl (v := x3 + nI 1) (congrArg (fun z => x3 + z) kc_1) (dc_le rfl) (ls' := [none, some (.int (nI 1)), some (.int (x2 / (nI 10))), some (.int (x3 + nI 1))]) rfl ?_
          refine dx_goto (pc := 52) hx dX9_areNeeds_52 (tgt := 14) (by decide) ?_
          exact (ih (nI 1) (x2 / (nI 10)) (x3 + nI 1) q h hk)
set_option maxHeartbeats 4000000 in
set_option maxRecDepth 100000 in
theorem th_X9_areNeeds {σ : dc_HP} {x0 : Int32} {r : Int32} (h : fn_X9_areNeeds x0 = some r) : dc_G mX9_areNeeds [.int x0] σ (dc_qi (fun x τ => x = r ∧ τ = σ)) := by
  intro κ hO
  have hx : dc_Cx κ RX9 cX9_areNeeds 4 1 25 := hO.1
  show dc_X κ 0 [some (.int x0), none, none, none] [] σ
  unfold fn_X9_areNeeds at h
  refine dx_iload_n (pc := 0) hx dX9_areNeeds_0 rfl ?_
  refine dx_i2l (pc := 1) hx dX9_areNeeds_1 ?_
  refine dx_lconst (pc := 2) hx dX9_areNeeds_2 (v := (0 : Int64)) (by decide) ?_
  refine dx_ldc2 (pc := 3) hx dX9_areNeeds_3 f_X9_103 ?_
  obtain ⟨r6, h6, h⟩ := Option.bind_eq_some_iff.mp h
  refine dx_callSir (pc := 6) (As := [.long x0.toInt64, .long ((0 : Int64)), .long ((3333 : Int64))]) (rest := []) hx dX9_areNeeds_6 k_X9_77 rfl (dc_le rfl) (dc_le rfl) (dc_le rfl) (dc_le rfl) rfl (th_X9_in h6) ?_
  refine dx_istore_n (pc := 9) hx dX9_areNeeds_9 (dc_le rfl) (ls' := [some (.int x0), some (.int r6), none, none]) rfl ?_
  refine dx_iload_n (pc := 10) hx dX9_areNeeds_10 rfl ?_
  refine dx_istore_n (pc := 11) hx dX9_areNeeds_11 (dc_le rfl) (ls' := [some (.int x0), some (.int r6), some (.int x0), none]) rfl ?_
  refine dx_iconst (pc := 12) hx dX9_areNeeds_12 kc_0 ?_
  refine dx_istore_n (pc := 13) hx dX9_areNeeds_13 (dc_le rfl) (ls' := [some (.int x0), some (.int r6), some (.int x0), some (.int (nI 0))]) rfl ?_
  obtain ⟨q14, h14, h⟩ := Option.bind_eq_some_iff.mp h
  refine dx_wk [false, true, true, true] <| (tl_X9_areNeeds_L14 hO σ  200 r6 x0 (nI 0) q14 h14 ?_)
  refine dx_iload_n (pc := 55) hx dX9_areNeeds_55 rfl ?_
  by_cases g56 : q14 = 0 ∨ q14 = 1
  rotate_left
  · cases (if_neg g56).symm.trans h
  replace h := (if_pos g56).symm.trans h
  obtain rfl := Option.some.inj h
  exact dx_zret hO (pc := 56) dX9_areNeeds_56 rfl (dc_bn g56) ⟨_, rfl, rfl, rfl⟩
set_option maxHeartbeats 4000000 in
set_option maxRecDepth 100000 in
theorem tl_X9_piece_L63 {κ : dc_KX} {Q : Option Value → dc_HP → Prop} (hO : dc_Ok κ mX9_piece Q) (x1 : Int32) (x3 : Int32) (x4 : Int32) (x5 : Int32) : ∀ (n : Nat) (x6 : Int32) (x7 : Int32) (σ : dc_HP) (q : dc_HP), fn_X9_piece_L63 x1 x3 x4 x5 n x6 x7 σ = some q → ∀ (hk : dc_X κ 97 [some (.ref 55), some (.int x1), none, some (.int x3), some (.int x4), some (.int x5), none, none] [] q), dc_X κ 63 [some (.ref 55), some (.int x1), none, some (.int x3), some (.int x4), some (.int x5), some (.int x6), some (.int x7)] [] σ := by
  have hx : dc_Cx κ RX9 cX9_piece 8 2 48 := hO.1
  intro n
  induction n with
  | zero =>
    intro x6 x7 σ q h
    cases h
  | succ n ih =>
    intro x6 x7 σ q h hk
    unfold fn_X9_piece_L63 at h
    refine dx_iload (pc := 63) hx dX9_piece_63 rfl ?_
    refine dx_if_lt (pc := 65) hx dX9_piece_65 (tgt := 97) (by decide) (fun c65 => ?_) (fun c65 => ?_)
    · replace h := (if_pos c65).symm.trans h
      obtain rfl := Option.some.inj h
      exact dx_wk [true, true, true, true, true, true, false, false] <| hk
    · replace h := (if_neg c65).symm.trans h
      refine dx_aload_n (pc := 68) hx dX9_piece_68 rfl ?_
      refine dx_getR (r := 58) (pc := 69) hx dX9_piece_69 f_X9_16 rfl rfl ?_
      refine dx_iconst (pc := 72) hx dX9_piece_72 kc_4 ?_
      refine dx_iload_n (pc := 73) hx dX9_piece_73 rfl ?_
      refine dx_imul (pc := 74) hx dX9_piece_74 ?_
      refine dx_iload (pc := 75) hx dX9_piece_75 rfl ?_
      refine dx_iadd (pc := 77) hx dX9_piece_77 ?_
      refine dx_iload (pc := 78) hx dX9_piece_78 rfl ?_
      refine dx_bipush (pc := 80) hx dX9_piece_80 kb_10 ?_
      refine dx_irem (pc := 82) hx dX9_piece_82 (by decide) ?_
      by_cases g83 : (((nI 4) * x1) + x7) < 0 ∨ 24 ≤ (((nI 4) * x1) + x7).toNatClampNeg
      · cases (if_pos g83).symm.trans h
      replace h := (if_neg g83).symm.trans h
      refine dx_iast (pc := 83) hx dX9_piece_83 rfl g83 ?_
      refine dx_nm (fun s83 e83 => ?_)
      replace h := dc_lt e83 h
      refine dx_iload (pc := 84) hx dX9_piece_84 rfl ?_
      refine dx_bipush (pc := 86) hx dX9_piece_86 kb_10 ?_
      refine dx_idiv (pc := 88) hx dX9_piece_88 (by decide) ?_
      refine dx_istore (pc := 89) hx dX9_piece_89 (dc_le rfl) (ls' := [some (.ref 55), some (.int x1), none, some (.int x3), some (.int x4), some (.int x5), some (.int (x6 / (nI 10))), some (.int x7)]) rfl ?_
      refine dx_iinc (pc := 91) hx dX9_piece_91 rfl (v := x7 + (-1 : Int32)) (congrArg (fun z => x7 + z) kc_m1) (dc_le rfl) (ls' := [some (.ref 55), some (.int x1), none, some (.int x3), some (.int x4), some (.int x5), some (.int (x6 / (nI 10))), some (.int (x7 + (-1 : Int32)))]) rfl ?_
      refine dx_goto (pc := 94) hx dX9_piece_94 (tgt := 63) (by decide) ?_
      exact (ih (x6 / (nI 10)) (x7 + (-1 : Int32)) s83 q h hk)
set_option maxHeartbeats 4000000 in
set_option maxRecDepth 100000 in
theorem th_X9_piece {σ : dc_HP} {x1 : Int32} {x2 : Int32} {x3 : Int32} {x4 : Int32} {r : Int32 × dc_HP} (h : fn_X9_piece σ x1 x2 x3 x4 = some r) : dc_G mX9_piece [.ref 55, .int x1, .int x2, .int x3, .int x4] σ (dc_qi (fun x τ => x = r.1 ∧ τ = r.2)) := by
  intro κ hO
  have hx : dc_Cx κ RX9 cX9_piece 8 2 48 := hO.1
  show dc_X κ 0 [some (.ref 55), some (.int x1), some (.int x2), some (.int x3), some (.int x4), none, none, none] [] σ
  unfold fn_X9_piece at h
  refine dx_iload_n (pc := 0) hx dX9_piece_0 rfl ?_
  refine dx_i2l (pc := 1) hx dX9_piece_1 ?_
  refine dx_lconst (pc := 2) hx dX9_piece_2 (v := (0 : Int64)) (by decide) ?_
  refine dx_ldc2 (pc := 3) hx dX9_piece_3 f_X9_105 ?_
  obtain ⟨r6, h6, h⟩ := Option.bind_eq_some_iff.mp h
  refine dx_callSir (pc := 6) (As := [.long x1.toInt64, .long ((0 : Int64)), .long ((5 : Int64))]) (rest := []) hx dX9_piece_6 k_X9_77 rfl (dc_le rfl) (dc_le rfl) (dc_le rfl) (dc_le rfl) rfl (th_X9_in h6) ?_
  refine dx_if_ne (pc := 9) hx dX9_piece_9 (tgt := 14) (by decide) (fun c9 => ?_) (fun c9 => ?_)
  · replace h := (if_neg c9).symm.trans h
    refine dx_iload_n (pc := 14) hx dX9_piece_14 rfl ?_
    obtain ⟨r15, h15, h⟩ := Option.bind_eq_some_iff.mp h
    refine dx_callSir (pc := 15) (As := [.int x2]) (rest := []) hx dX9_piece_15 k_X9_107 rfl (dc_le rfl) (dc_le rfl) (dc_le rfl) (dc_le rfl) rfl (th_X9_areNeeds h15) ?_
    refine dx_if_eq (pc := 18) hx dX9_piece_18 (tgt := 46) (by decide) (fun c18 => ?_) (fun c18 => ?_)
    · replace h := (if_pos c18).symm.trans h
      refine dx_bipush (pc := 46) hx dX9_piece_46 kb_m2 ?_
      obtain rfl := Option.some.inj h
      exact dx_iret hO (pc := 48) dX9_piece_48 rfl ⟨_, rfl, rfl, rfl⟩
    · replace h := (if_neg c18).symm.trans h
      refine dx_iload_n (pc := 21) hx dX9_piece_21 rfl ?_
      refine dx_i2l (pc := 22) hx dX9_piece_22 ?_
      refine dx_lconst (pc := 23) hx dX9_piece_23 (v := (0 : Int64)) (by decide) ?_
      refine dx_ldc2 (pc := 24) hx dX9_piece_24 f_X9_110 ?_
      obtain ⟨r27, h27, h⟩ := Option.bind_eq_some_iff.mp h
      refine dx_callSir (pc := 27) (As := [.long x3.toInt64, .long ((0 : Int64)), .long ((60 : Int64))]) (rest := []) hx dX9_piece_27 k_X9_77 rfl (dc_le rfl) (dc_le rfl) (dc_le rfl) (dc_le rfl) rfl (th_X9_in h27) ?_
      refine dx_if_eq (pc := 30) hx dX9_piece_30 (tgt := 46) (by decide) (fun c30 => ?_) (fun c30 => ?_)
      · replace h := (if_pos c30).symm.trans h
        refine dx_bipush (pc := 46) hx dX9_piece_46 kb_m2 ?_
        obtain rfl := Option.some.inj h
        exact dx_iret hO (pc := 48) dX9_piece_48 rfl ⟨_, rfl, rfl, rfl⟩
      · replace h := (if_neg c30).symm.trans h
        refine dx_iload (pc := 33) hx dX9_piece_33 rfl ?_
        refine dx_i2l (pc := 35) hx dX9_piece_35 ?_
        refine dx_lconst (pc := 36) hx dX9_piece_36 (v := (0 : Int64)) (by decide) ?_
        refine dx_ldc2 (pc := 37) hx dX9_piece_37 f_X9_112 ?_
        obtain ⟨r40, h40, h⟩ := Option.bind_eq_some_iff.mp h
        refine dx_callSir (pc := 40) (As := [.long x4.toInt64, .long ((0 : Int64)), .long ((9 : Int64))]) (rest := []) hx dX9_piece_40 k_X9_77 rfl (dc_le rfl) (dc_le rfl) (dc_le rfl) (dc_le rfl) rfl (th_X9_in h40) ?_
        refine dx_if_ne (pc := 43) hx dX9_piece_43 (tgt := 49) (by decide) (fun c43 => ?_) (fun c43 => ?_)
        · replace h := (if_neg c43).symm.trans h
          refine dx_aload_n (pc := 49) hx dX9_piece_49 rfl ?_
          refine dx_getR (r := 59) (pc := 50) hx dX9_piece_50 f_X9_19 rfl rfl ?_
          refine dx_iload_n (pc := 53) hx dX9_piece_53 rfl ?_
          by_cases g54 : x1 < 0 ∨ 6 ≤ x1.toNatClampNeg
          · cases (if_pos g54).symm.trans h
          replace h := (if_neg g54).symm.trans h
          refine dx_iald (pc := 54) hx dX9_piece_54 rfl g54 ?_
          refine dx_istore (pc := 55) hx dX9_piece_55 (dc_le rfl) (ls' := [some (.ref 55), some (.int x1), some (.int x2), some (.int x3), some (.int x4), some (.int (σ.1 59 x1.toNatClampNeg)), none, none]) rfl ?_
          refine dx_iload_n (pc := 57) hx dX9_piece_57 rfl ?_
          refine dx_istore (pc := 58) hx dX9_piece_58 (dc_le rfl) (ls' := [some (.ref 55), some (.int x1), some (.int x2), some (.int x3), some (.int x4), some (.int (σ.1 59 x1.toNatClampNeg)), some (.int x2), none]) rfl ?_
          refine dx_iconst (pc := 60) hx dX9_piece_60 kc_3 ?_
          refine dx_istore (pc := 61) hx dX9_piece_61 (dc_le rfl) (ls' := [some (.ref 55), some (.int x1), some (.int x2), some (.int x3), some (.int x4), some (.int (σ.1 59 x1.toNatClampNeg)), some (.int x2), some (.int (nI 3))]) rfl ?_
          obtain ⟨q63, h63, h⟩ := Option.bind_eq_some_iff.mp h
          refine dx_wk [true, true, false, true, true, true, true, true] <| (tl_X9_piece_L63 hO x1 x3 x4 (σ.1 59 x1.toNatClampNeg) 200 x2 (nI 3) σ q63 h63 ?_)
          refine dx_aload_n (pc := 97) hx dX9_piece_97 rfl ?_
          refine dx_getR (r := 59) (pc := 98) hx dX9_piece_98 f_X9_19 rfl rfl ?_
          refine dx_iload_n (pc := 101) hx dX9_piece_101 rfl ?_
          refine dx_iload_n (pc := 102) hx dX9_piece_102 rfl ?_
          by_cases g103 : x1 < 0 ∨ 6 ≤ x1.toNatClampNeg
          · cases (if_pos g103).symm.trans h
          replace h := (if_neg g103).symm.trans h
          refine dx_iast (pc := 103) hx dX9_piece_103 rfl g103 ?_
          refine dx_nm (fun s103 e103 => ?_)
          replace h := dc_lt e103 h
          refine dx_aload_n (pc := 104) hx dX9_piece_104 rfl ?_
          refine dx_getR (r := 60) (pc := 105) hx dX9_piece_105 f_X9_22 rfl rfl ?_
          refine dx_iload_n (pc := 108) hx dX9_piece_108 rfl ?_
          refine dx_iload (pc := 109) hx dX9_piece_109 rfl ?_
          by_cases g111 : x1 < 0 ∨ 6 ≤ x1.toNatClampNeg
          · cases (if_pos g111).symm.trans h
          replace h := (if_neg g111).symm.trans h
          refine dx_iast (pc := 111) hx dX9_piece_111 rfl g111 ?_
          refine dx_nm (fun s111 e111 => ?_)
          replace h := dc_lt e111 h
          refine dx_iload (pc := 112) hx dX9_piece_112 rfl ?_
          obtain rfl := Option.some.inj h
          exact dx_iret hO (pc := 114) dX9_piece_114 rfl ⟨_, rfl, rfl, rfl⟩
        · replace h := (if_pos c43).symm.trans h
          refine dx_bipush (pc := 46) hx dX9_piece_46 kb_m2 ?_
          obtain rfl := Option.some.inj h
          exact dx_iret hO (pc := 48) dX9_piece_48 rfl ⟨_, rfl, rfl, rfl⟩
  · replace h := (if_pos c9).symm.trans h
    refine dx_iconst (pc := 12) hx dX9_piece_12 kc_m1 ?_
    obtain rfl := Option.some.inj h
    exact dx_iret hO (pc := 13) dX9_piece_13 rfl ⟨_, rfl, rfl, rfl⟩
set_option maxHeartbeats 4000000 in
set_option maxRecDepth 100000 in
theorem th_X9_say {σ : dc_HP} {x1 : Int32} {r : Int32 × dc_HP} (h : fn_X9_say σ x1 = some r) : dc_G mX9_say [.ref 55, .int x1] σ (dc_qi (fun x τ => x = r.1 ∧ τ = r.2)) := by
  intro κ hO
  have hx : dc_Cx κ RX9 cX9_say 2 1 25 := hO.1
  show dc_X κ 0 [some (.ref 55), some (.int x1)] [] σ
  unfold fn_X9_say at h
  refine dx_iload_n (pc := 0) hx dX9_say_0 rfl ?_
  refine dx_i2l (pc := 1) hx dX9_say_1 ?_
  refine dx_ldc2 (pc := 2) hx dX9_say_2 f_X9_114 ?_
  refine dx_ldc2 (pc := 5) hx dX9_say_5 f_X9_116 ?_
  obtain ⟨r8, h8, h⟩ := Option.bind_eq_some_iff.mp h
  refine dx_callSir (pc := 8) (As := [.long x1.toInt64, .long ((33 : Int64)), .long ((126 : Int64))]) (rest := []) hx dX9_say_8 k_X9_77 rfl (dc_le rfl) (dc_le rfl) (dc_le rfl) (dc_le rfl) rfl (th_X9_in h8) ?_
  refine dx_if_ne (pc := 11) hx dX9_say_11 (tgt := 17) (by decide) (fun c11 => ?_) (fun c11 => ?_)
  · replace h := (if_neg c11).symm.trans h
    refine dx_aload_n (pc := 17) hx dX9_say_17 rfl ?_
    refine dx_getI (pc := 18) hx dX9_say_18 f_X9_118 rfl rfl ?_
    refine dx_bipush (pc := 21) hx dX9_say_21 kb_60 ?_
    refine dx_icmp_ne (pc := 23) hx dX9_say_23 (tgt := 29) (by decide) (fun c23 => ?_) (fun c23 => ?_)
    · replace h := (if_neg c23).symm.trans h
      refine dx_aload_n (pc := 29) hx dX9_say_29 rfl ?_
      refine dx_getR (r := 63) (pc := 30) hx dX9_say_30 f_X9_31 rfl rfl ?_
      refine dx_aload_n (pc := 33) hx dX9_say_33 rfl ?_
      refine dx_getI (pc := 34) hx dX9_say_34 f_X9_118 rfl rfl ?_
      refine dx_iload_n (pc := 37) hx dX9_say_37 rfl ?_
      by_cases g38 : (σ.1 55 13) < 0 ∨ 60 ≤ (σ.1 55 13).toNatClampNeg
      · cases (if_pos g38).symm.trans h
      replace h := (if_neg g38).symm.trans h
      refine dx_iast (pc := 38) hx dX9_say_38 rfl g38 ?_
      refine dx_nm (fun s38 e38 => ?_)
      replace h := dc_lt e38 h
      refine dx_aload_n (pc := 39) hx dX9_say_39 rfl ?_
      refine dx_dup (pc := 40) hx dX9_say_40 rfl ?_
      refine dx_getI (pc := 41) hx dX9_say_41 f_X9_118 rfl rfl ?_
      refine dx_iconst (pc := 44) hx dX9_say_44 kc_1 ?_
      refine dx_iadd (pc := 45) hx dX9_say_45 ?_
      refine dx_putI (pc := 46) hx dX9_say_46 f_X9_118 rfl rfl tyX9_ok rfl (Or.inl ⟨rfl, rfl⟩) ?_
      refine dx_nm (fun s46 e46 => ?_)
      replace h := dc_lt e46 h
      refine dx_aload_n (pc := 49) hx dX9_say_49 rfl ?_
      refine dx_getI (pc := 50) hx dX9_say_50 f_X9_118 rfl rfl ?_
      obtain rfl := Option.some.inj h
      exact dx_iret hO (pc := 53) dX9_say_53 rfl ⟨_, rfl, rfl, rfl⟩
    · replace h := (if_pos c23).symm.trans h
      refine dx_bipush (pc := 26) hx dX9_say_26 kb_m4 ?_
      obtain rfl := Option.some.inj h
      exact dx_iret hO (pc := 28) dX9_say_28 rfl ⟨_, rfl, rfl, rfl⟩
  · replace h := (if_pos c11).symm.trans h
    refine dx_bipush (pc := 14) hx dX9_say_14 kb_m2 ?_
    obtain rfl := Option.some.inj h
    exact dx_iret hO (pc := 16) dX9_say_16 rfl ⟨_, rfl, rfl, rfl⟩
set_option maxHeartbeats 4000000 in
set_option maxRecDepth 100000 in
theorem th_X9_wipe {σ : dc_HP} {r : Int32 × dc_HP} (h : fn_X9_wipe σ = some r) : dc_G mX9_wipe [.ref 55] σ (dc_qi (fun x τ => x = r.1 ∧ τ = r.2)) := by
  intro κ hO
  have hx : dc_Cx κ RX9 cX9_wipe 2 0 0 := hO.1
  show dc_X κ 0 [some (.ref 55), none] [] σ
  unfold fn_X9_wipe at h
  refine dx_aload_n (pc := 0) hx dX9_wipe_0 rfl ?_
  refine dx_getI (pc := 1) hx dX9_wipe_1 f_X9_118 rfl rfl ?_
  refine dx_istore_n (pc := 4) hx dX9_wipe_4 (dc_le rfl) (ls' := [some (.ref 55), some (.int (σ.1 55 13))]) rfl ?_
  refine dx_aload_n (pc := 5) hx dX9_wipe_5 rfl ?_
  refine dx_iconst (pc := 6) hx dX9_wipe_6 kc_0 ?_
  refine dx_putI (pc := 7) hx dX9_wipe_7 f_X9_118 rfl rfl tyX9_ok rfl (Or.inl ⟨rfl, rfl⟩) ?_
  refine dx_nm (fun s7 e7 => ?_)
  replace h := dc_lt e7 h
  refine dx_iload_n (pc := 10) hx dX9_wipe_10 rfl ?_
  obtain rfl := Option.some.inj h
  exact dx_iret hO (pc := 11) dX9_wipe_11 rfl ⟨_, rfl, rfl, rfl⟩
set_option maxHeartbeats 4000000 in
set_option maxRecDepth 100000 in
theorem th_X9_close {σ : dc_HP} {x1 : Int32} {x2 : Int32} {r : Int32 × dc_HP} (h : fn_X9_close σ x1 x2 = some r) : dc_G mX9_close [.ref 55, .int x1, .int x2] σ (dc_qi (fun x τ => x = r.1 ∧ τ = r.2)) := by
  intro κ hO
  have hx : dc_Cx κ RX9 cX9_close 3 0 0 := hO.1
  show dc_X κ 0 [some (.ref 55), some (.int x1), some (.int x2)] [] σ
  unfold fn_X9_close at h
  refine dx_aload_n (pc := 0) hx dX9_close_0 rfl ?_
  refine dx_getR (r := 64) (pc := 1) hx dX9_close_1 f_X9_34 rfl rfl ?_
  refine dx_aload_n (pc := 4) hx dX9_close_4 rfl ?_
  refine dx_getI (pc := 5) hx dX9_close_5 f_X9_121 rfl rfl ?_
  refine dx_iload_n (pc := 8) hx dX9_close_8 rfl ?_
  by_cases g9 : (σ.1 55 17) < 0 ∨ 60 ≤ (σ.1 55 17).toNatClampNeg
  · cases (if_pos g9).symm.trans h
  replace h := (if_neg g9).symm.trans h
  refine dx_iast (pc := 9) hx dX9_close_9 rfl g9 ?_
  refine dx_nm (fun s9 e9 => ?_)
  replace h := dc_lt e9 h
  refine dx_aload_n (pc := 10) hx dX9_close_10 rfl ?_
  refine dx_getR (r := 66) (pc := 11) hx dX9_close_11 f_X9_40 rfl rfl ?_
  refine dx_aload_n (pc := 14) hx dX9_close_14 rfl ?_
  refine dx_getI (pc := 15) hx dX9_close_15 f_X9_121 rfl rfl ?_
  refine dx_iload_n (pc := 18) hx dX9_close_18 rfl ?_
  by_cases g19 : (s9.1 55 17) < 0 ∨ 60 ≤ (s9.1 55 17).toNatClampNeg
  · cases (if_pos g19).symm.trans h
  replace h := (if_neg g19).symm.trans h
  refine dx_iast (pc := 19) hx dX9_close_19 rfl g19 ?_
  refine dx_nm (fun s19 e19 => ?_)
  replace h := dc_lt e19 h
  refine dx_aload_n (pc := 20) hx dX9_close_20 rfl ?_
  refine dx_dup (pc := 21) hx dX9_close_21 rfl ?_
  refine dx_getI (pc := 22) hx dX9_close_22 f_X9_121 rfl rfl ?_
  refine dx_iconst (pc := 25) hx dX9_close_25 kc_1 ?_
  refine dx_iadd (pc := 26) hx dX9_close_26 ?_
  refine dx_putI (pc := 27) hx dX9_close_27 f_X9_121 rfl rfl tyX9_ok rfl (Or.inl ⟨rfl, rfl⟩) ?_
  refine dx_nm (fun s27 e27 => ?_)
  replace h := dc_lt e27 h
  refine dx_iconst (pc := 30) hx dX9_close_30 kc_0 ?_
  obtain rfl := Option.some.inj h
  exact dx_iret hO (pc := 31) dX9_close_31 rfl ⟨_, rfl, rfl, rfl⟩
set_option maxHeartbeats 4000000 in
set_option maxRecDepth 100000 in
theorem th_X9_begin {σ : dc_HP} {x1 : Int32} {r : Int32 × dc_HP} (h : fn_X9_begin σ x1 = some r) : dc_G mX9_begin [.ref 55, .int x1] σ (dc_qi (fun x τ => x = r.1 ∧ τ = r.2)) := by
  intro κ hO
  have hx : dc_Cx κ RX9 cX9_begin 4 1 25 := hO.1
  show dc_X κ 0 [some (.ref 55), some (.int x1), none, none] [] σ
  unfold fn_X9_begin at h
  refine dx_iload_n (pc := 0) hx dX9_begin_0 rfl ?_
  refine dx_i2l (pc := 1) hx dX9_begin_1 ?_
  refine dx_ldc2 (pc := 2) hx dX9_begin_2 f_X9_124 ?_
  refine dx_ldc2 (pc := 5) hx dX9_begin_5 f_X9_126 ?_
  obtain ⟨r8, h8, h⟩ := Option.bind_eq_some_iff.mp h
  refine dx_callSir (pc := 8) (As := [.long x1.toInt64, .long ((48 : Int64)), .long ((53 : Int64))]) (rest := []) hx dX9_begin_8 k_X9_77 rfl (dc_le rfl) (dc_le rfl) (dc_le rfl) (dc_le rfl) rfl (th_X9_in h8) ?_
  refine dx_istore_n (pc := 11) hx dX9_begin_11 (dc_le rfl) (ls' := [some (.ref 55), some (.int x1), some (.int r8), none]) rfl ?_
  refine dx_iload_n (pc := 12) hx dX9_begin_12 rfl ?_
  refine dx_i2l (pc := 13) hx dX9_begin_13 ?_
  refine dx_ldc2 (pc := 14) hx dX9_begin_14 f_X9_128 ?_
  refine dx_ldc2 (pc := 17) hx dX9_begin_17 f_X9_130 ?_
  obtain ⟨r20, h20, h⟩ := Option.bind_eq_some_iff.mp h
  refine dx_callSir (pc := 20) (As := [.long x1.toInt64, .long ((65 : Int64)), .long ((72 : Int64))]) (rest := []) hx dX9_begin_20 k_X9_77 rfl (dc_le rfl) (dc_le rfl) (dc_le rfl) (dc_le rfl) rfl (th_X9_in h20) ?_
  refine dx_istore_n (pc := 23) hx dX9_begin_23 (dc_le rfl) (ls' := [some (.ref 55), some (.int x1), some (.int r8), some (.int r20)]) rfl ?_
  refine dx_aload_n (pc := 24) hx dX9_begin_24 rfl ?_
  refine dx_getR (r := 65) (pc := 25) hx dX9_begin_25 f_X9_37 rfl rfl ?_
  refine dx_aload_n (pc := 28) hx dX9_begin_28 rfl ?_
  refine dx_getI (pc := 29) hx dX9_begin_29 f_X9_121 rfl rfl ?_
  refine dx_iload_n (pc := 32) hx dX9_begin_32 rfl ?_
  obtain ⟨q33, hr, h⟩ := Option.bind_eq_some_iff.mp h
  have hk : dc_X κ 55 [some (.ref 55), some (.int x1), some (.int r8), some (.int r20)] [.int q33, .int (σ.1 55 17), .ref 65] σ := by
    clear hr
    by_cases g55 : (σ.1 55 17) < 0 ∨ 60 ≤ (σ.1 55 17).toNatClampNeg
    · cases (if_pos g55).symm.trans h
    replace h := (if_neg g55).symm.trans h
    refine dx_iast (pc := 55) hx dX9_begin_55 rfl g55 ?_
    refine dx_nm (fun s55 e55 => ?_)
    replace h := dc_lt e55 h
    refine dx_iload_n (pc := 56) hx dX9_begin_56 rfl ?_
    refine dx_if_eq (pc := 57) hx dX9_begin_57 (tgt := 69) (by decide) (fun c57 => ?_) (fun c57 => ?_)
    · replace h := (if_pos c57).symm.trans h
      refine dx_iload_n (pc := 69) hx dX9_begin_69 rfl ?_
      refine dx_bipush (pc := 70) hx dX9_begin_70 kb_46 ?_
      refine dx_icmp_ne (pc := 72) hx dX9_begin_72 (tgt := 84) (by decide) (fun c72 => ?_) (fun c72 => ?_)
      · replace h := (if_neg c72).symm.trans h
        refine dx_iload_n (pc := 84) hx dX9_begin_84 rfl ?_
        refine dx_if_eq (pc := 85) hx dX9_begin_85 (tgt := 92) (by decide) (fun c85 => ?_) (fun c85 => ?_)
        · replace h := (if_pos c85).symm.trans h
          refine dx_bipush (pc := 92) hx dX9_begin_92 kb_m6 ?_
          obtain rfl := Option.some.inj h
          exact dx_iret hO (pc := 94) dX9_begin_94 rfl ⟨_, rfl, rfl, rfl⟩
        · replace h := (if_neg c85).symm.trans h
          refine dx_iconst (pc := 88) hx dX9_begin_88 kc_1 ?_
          refine dx_goto (pc := 89) hx dX9_begin_89 (tgt := 94) (by decide) ?_
          obtain rfl := Option.some.inj h
          exact dx_iret hO (pc := 94) dX9_begin_94 rfl ⟨_, rfl, rfl, rfl⟩
      · replace h := (if_pos c72).symm.trans h
        refine dx_aload_n (pc := 75) hx dX9_begin_75 rfl ?_
        refine dx_iconst (pc := 76) hx dX9_begin_76 kc_5 ?_
        refine dx_iconst (pc := 77) hx dX9_begin_77 kc_0 ?_
        obtain ⟨r78, h78, h⟩ := Option.bind_eq_some_iff.mp h
        refine dx_callViw (pc := 78) (As := [.int (nI 5), .int (nI 0)]) (rest := []) hx dX9_begin_78 k_X9_132 rfl rfl rfl rfl (dc_le rfl) (dc_le rfl) (dc_le rfl) (dc_le rfl) rfl (th_X9_close h78) ?_
        refine dx_goto (pc := 81) hx dX9_begin_81 (tgt := 94) (by decide) ?_
        obtain rfl := Option.some.inj h
        exact dx_iret hO (pc := 94) dX9_begin_94 rfl ⟨_, rfl, rfl, rfl⟩
    · replace h := (if_neg c57).symm.trans h
      refine dx_aload_n (pc := 60) hx dX9_begin_60 rfl ?_
      refine dx_iconst (pc := 61) hx dX9_begin_61 kc_0 ?_
      refine dx_iconst (pc := 62) hx dX9_begin_62 kc_0 ?_
      obtain ⟨r63, h63, h⟩ := Option.bind_eq_some_iff.mp h
      refine dx_callViw (pc := 63) (As := [.int (nI 0), .int (nI 0)]) (rest := []) hx dX9_begin_63 k_X9_132 rfl rfl rfl rfl (dc_le rfl) (dc_le rfl) (dc_le rfl) (dc_le rfl) rfl (th_X9_close h63) ?_
      refine dx_goto (pc := 66) hx dX9_begin_66 (tgt := 94) (by decide) ?_
      obtain rfl := Option.some.inj h
      exact dx_iret hO (pc := 94) dX9_begin_94 rfl ⟨_, rfl, rfl, rfl⟩
  replace h := hr
  clear hr
  refine dx_if_eq (pc := 33) hx dX9_begin_33 (tgt := 43) (by decide) (fun c33 => ?_) (fun c33 => ?_)
  · replace h := (if_pos c33).symm.trans h
    refine dx_iload_n (pc := 43) hx dX9_begin_43 rfl ?_
    refine dx_if_eq (pc := 44) hx dX9_begin_44 (tgt := 54) (by decide) (fun c44 => ?_) (fun c44 => ?_)
    · replace h := (if_pos c44).symm.trans h
      refine dx_iconst (pc := 54) hx dX9_begin_54 kc_0 ?_
      obtain rfl := Option.some.inj h
      exact hk
    · replace h := (if_neg c44).symm.trans h
      refine dx_iload_n (pc := 47) hx dX9_begin_47 rfl ?_
      refine dx_bipush (pc := 48) hx dX9_begin_48 kb_65 ?_
      refine dx_isub (pc := 50) hx dX9_begin_50 ?_
      refine dx_goto (pc := 51) hx dX9_begin_51 (tgt := 55) (by decide) ?_
      obtain rfl := Option.some.inj h
      exact hk
  · replace h := (if_neg c33).symm.trans h
    refine dx_iload_n (pc := 36) hx dX9_begin_36 rfl ?_
    refine dx_bipush (pc := 37) hx dX9_begin_37 kb_48 ?_
    refine dx_isub (pc := 39) hx dX9_begin_39 ?_
    refine dx_goto (pc := 40) hx dX9_begin_40 (tgt := 55) (by decide) ?_
    obtain rfl := Option.some.inj h
    exact hk
set_option maxHeartbeats 4000000 in
set_option maxRecDepth 100000 in
theorem th_X9_readOn {σ : dc_HP} {x1 : Int32} {x2 : Int32} {r : Int32 × dc_HP} (h : fn_X9_readOn σ x1 x2 = some r) : dc_G mX9_readOn [.ref 55, .int x1, .int x2] σ (dc_qi (fun x τ => x = r.1 ∧ τ = r.2)) := by
  intro κ hO
  have hx : dc_Cx κ RX9 cX9_readOn 3 2 48 := hO.1
  show dc_X κ 0 [some (.ref 55), some (.int x1), some (.int x2)] [] σ
  unfold fn_X9_readOn at h
  refine dx_iload_n (pc := 0) hx dX9_readOn_0 rfl ?_
  refine dx_if_ne (pc := 1) hx dX9_readOn_1 (tgt := 10) (by decide) (fun c1 => ?_) (fun c1 => ?_)
  · replace h := (if_neg c1).symm.trans h
    refine dx_iload_n (pc := 10) hx dX9_readOn_10 rfl ?_
    refine dx_iconst (pc := 11) hx dX9_readOn_11 kc_2 ?_
    refine dx_icmp_ne (pc := 12) hx dX9_readOn_12 (tgt := 47) (by decide) (fun c12 => ?_) (fun c12 => ?_)
    · replace h := (if_neg c12).symm.trans h
      refine dx_iload_n (pc := 47) hx dX9_readOn_47 rfl ?_
      refine dx_iconst (pc := 48) hx dX9_readOn_48 kc_3 ?_
      refine dx_icmp_ne (pc := 49) hx dX9_readOn_49 (tgt := 81) (by decide) (fun c49 => ?_) (fun c49 => ?_)
      · replace h := (if_neg c49).symm.trans h
        refine dx_iload_n (pc := 81) hx dX9_readOn_81 rfl ?_
        refine dx_bipush (pc := 82) hx dX9_readOn_82 kb_43 ?_
        refine dx_icmp_ne (pc := 84) hx dX9_readOn_84 (tgt := 91) (by decide) (fun c84 => ?_) (fun c84 => ?_)
        · replace h := (if_neg c84).symm.trans h
          refine dx_iload_n (pc := 91) hx dX9_readOn_91 rfl ?_
          refine dx_bipush (pc := 92) hx dX9_readOn_92 kb_61 ?_
          refine dx_icmp_ne (pc := 94) hx dX9_readOn_94 (tgt := 101) (by decide) (fun c94 => ?_) (fun c94 => ?_)
          · replace h := (if_neg c94).symm.trans h
            refine dx_iload_n (pc := 101) hx dX9_readOn_101 rfl ?_
            refine dx_bipush (pc := 102) hx dX9_readOn_102 kb_42 ?_
            refine dx_icmp_ne (pc := 104) hx dX9_readOn_104 (tgt := 116) (by decide) (fun c104 => ?_) (fun c104 => ?_)
            · replace h := (if_neg c104).symm.trans h
              refine dx_iload_n (pc := 116) hx dX9_readOn_116 rfl ?_
              refine dx_bipush (pc := 117) hx dX9_readOn_117 kb_120 ?_
              refine dx_icmp_ne (pc := 119) hx dX9_readOn_119 (tgt := 131) (by decide) (fun c119 => ?_) (fun c119 => ?_)
              · replace h := (if_neg c119).symm.trans h
                refine dx_bipush (pc := 131) hx dX9_readOn_131 kb_m6 ?_
                obtain rfl := Option.some.inj h
                exact dx_iret hO (pc := 133) dX9_readOn_133 rfl ⟨_, rfl, rfl, rfl⟩
              · replace h := (if_pos c119).symm.trans h
                refine dx_aload_n (pc := 122) hx dX9_readOn_122 rfl ?_
                refine dx_iconst (pc := 123) hx dX9_readOn_123 kc_4 ?_
                refine dx_iconst (pc := 124) hx dX9_readOn_124 kc_0 ?_
                obtain ⟨r125, h125, h⟩ := Option.bind_eq_some_iff.mp h
                refine dx_callViw (pc := 125) (As := [.int (nI 4), .int (nI 0)]) (rest := []) hx dX9_readOn_125 k_X9_132 rfl rfl rfl rfl (dc_le rfl) (dc_le rfl) (dc_le rfl) (dc_le rfl) rfl (th_X9_close h125) ?_
                refine dx_goto (pc := 128) hx dX9_readOn_128 (tgt := 133) (by decide) ?_
                obtain rfl := Option.some.inj h
                exact dx_iret hO (pc := 133) dX9_readOn_133 rfl ⟨_, rfl, rfl, rfl⟩
            · replace h := (if_pos c104).symm.trans h
              refine dx_aload_n (pc := 107) hx dX9_readOn_107 rfl ?_
              refine dx_iconst (pc := 108) hx dX9_readOn_108 kc_2 ?_
              refine dx_iconst (pc := 109) hx dX9_readOn_109 kc_0 ?_
              obtain ⟨r110, h110, h⟩ := Option.bind_eq_some_iff.mp h
              refine dx_callViw (pc := 110) (As := [.int (nI 2), .int (nI 0)]) (rest := []) hx dX9_readOn_110 k_X9_132 rfl rfl rfl rfl (dc_le rfl) (dc_le rfl) (dc_le rfl) (dc_le rfl) rfl (th_X9_close h110) ?_
              refine dx_goto (pc := 113) hx dX9_readOn_113 (tgt := 133) (by decide) ?_
              obtain rfl := Option.some.inj h
              exact dx_iret hO (pc := 133) dX9_readOn_133 rfl ⟨_, rfl, rfl, rfl⟩
          · replace h := (if_pos c94).symm.trans h
            refine dx_iconst (pc := 97) hx dX9_readOn_97 kc_3 ?_
            refine dx_goto (pc := 98) hx dX9_readOn_98 (tgt := 133) (by decide) ?_
            obtain rfl := Option.some.inj h
            exact dx_iret hO (pc := 133) dX9_readOn_133 rfl ⟨_, rfl, rfl, rfl⟩
        · replace h := (if_pos c84).symm.trans h
          refine dx_iconst (pc := 87) hx dX9_readOn_87 kc_2 ?_
          refine dx_goto (pc := 88) hx dX9_readOn_88 (tgt := 133) (by decide) ?_
          obtain rfl := Option.some.inj h
          exact dx_iret hO (pc := 133) dX9_readOn_133 rfl ⟨_, rfl, rfl, rfl⟩
      · replace h := (if_pos c49).symm.trans h
        refine dx_iload_n (pc := 52) hx dX9_readOn_52 rfl ?_
        refine dx_i2l (pc := 53) hx dX9_readOn_53 ?_
        refine dx_ldc2 (pc := 54) hx dX9_readOn_54 f_X9_128 ?_
        refine dx_ldc2 (pc := 57) hx dX9_readOn_57 f_X9_130 ?_
        obtain ⟨r60, h60, h⟩ := Option.bind_eq_some_iff.mp h
        refine dx_callSir (pc := 60) (As := [.long x2.toInt64, .long ((65 : Int64)), .long ((72 : Int64))]) (rest := []) hx dX9_readOn_60 k_X9_77 rfl (dc_le rfl) (dc_le rfl) (dc_le rfl) (dc_le rfl) rfl (th_X9_in h60) ?_
        refine dx_if_eq (pc := 63) hx dX9_readOn_63 (tgt := 78) (by decide) (fun c63 => ?_) (fun c63 => ?_)
        · replace h := (if_pos c63).symm.trans h
          refine dx_bipush (pc := 78) hx dX9_readOn_78 kb_m6 ?_
          obtain rfl := Option.some.inj h
          exact dx_iret hO (pc := 80) dX9_readOn_80 rfl ⟨_, rfl, rfl, rfl⟩
        · replace h := (if_neg c63).symm.trans h
          refine dx_aload_n (pc := 66) hx dX9_readOn_66 rfl ?_
          refine dx_iconst (pc := 67) hx dX9_readOn_67 kc_3 ?_
          refine dx_iload_n (pc := 68) hx dX9_readOn_68 rfl ?_
          refine dx_bipush (pc := 69) hx dX9_readOn_69 kb_65 ?_
          refine dx_isub (pc := 71) hx dX9_readOn_71 ?_
          obtain ⟨r72, h72, h⟩ := Option.bind_eq_some_iff.mp h
          refine dx_callViw (pc := 72) (As := [.int (nI 3), .int (x2 - (nI 65))]) (rest := []) hx dX9_readOn_72 k_X9_132 rfl rfl rfl rfl (dc_le rfl) (dc_le rfl) (dc_le rfl) (dc_le rfl) rfl (th_X9_close h72) ?_
          refine dx_goto (pc := 75) hx dX9_readOn_75 (tgt := 80) (by decide) ?_
          obtain rfl := Option.some.inj h
          exact dx_iret hO (pc := 80) dX9_readOn_80 rfl ⟨_, rfl, rfl, rfl⟩
    · replace h := (if_pos c12).symm.trans h
      refine dx_iload_n (pc := 15) hx dX9_readOn_15 rfl ?_
      refine dx_i2l (pc := 16) hx dX9_readOn_16 ?_
      refine dx_ldc2 (pc := 17) hx dX9_readOn_17 f_X9_139 ?_
      refine dx_ldc2 (pc := 20) hx dX9_readOn_20 f_X9_141 ?_
      obtain ⟨r23, h23, h⟩ := Option.bind_eq_some_iff.mp h
      refine dx_callSir (pc := 23) (As := [.long x2.toInt64, .long ((49 : Int64)), .long ((57 : Int64))]) (rest := []) hx dX9_readOn_23 k_X9_77 rfl (dc_le rfl) (dc_le rfl) (dc_le rfl) (dc_le rfl) rfl (th_X9_in h23) ?_
      refine dx_if_eq (pc := 26) hx dX9_readOn_26 (tgt := 44) (by decide) (fun c26 => ?_) (fun c26 => ?_)
      · replace h := (if_pos c26).symm.trans h
        refine dx_bipush (pc := 44) hx dX9_readOn_44 kb_m6 ?_
        obtain rfl := Option.some.inj h
        exact dx_iret hO (pc := 46) dX9_readOn_46 rfl ⟨_, rfl, rfl, rfl⟩
      · replace h := (if_neg c26).symm.trans h
        refine dx_aload_n (pc := 29) hx dX9_readOn_29 rfl ?_
        refine dx_iconst (pc := 30) hx dX9_readOn_30 kc_1 ?_
        refine dx_bipush (pc := 31) hx dX9_readOn_31 kb_10 ?_
        refine dx_iload_n (pc := 33) hx dX9_readOn_33 rfl ?_
        refine dx_bipush (pc := 34) hx dX9_readOn_34 kb_48 ?_
        refine dx_isub (pc := 36) hx dX9_readOn_36 ?_
        refine dx_imul (pc := 37) hx dX9_readOn_37 ?_
        obtain ⟨r38, h38, h⟩ := Option.bind_eq_some_iff.mp h
        refine dx_callViw (pc := 38) (As := [.int (nI 1), .int ((nI 10) * (x2 - (nI 48)))]) (rest := []) hx dX9_readOn_38 k_X9_132 rfl rfl rfl rfl (dc_le rfl) (dc_le rfl) (dc_le rfl) (dc_le rfl) rfl (th_X9_close h38) ?_
        refine dx_goto (pc := 41) hx dX9_readOn_41 (tgt := 46) (by decide) ?_
        obtain rfl := Option.some.inj h
        exact dx_iret hO (pc := 46) dX9_readOn_46 rfl ⟨_, rfl, rfl, rfl⟩
  · replace h := (if_pos c1).symm.trans h
    refine dx_aload_n (pc := 4) hx dX9_readOn_4 rfl ?_
    refine dx_iload_n (pc := 5) hx dX9_readOn_5 rfl ?_
    obtain ⟨r6, h6, h⟩ := Option.bind_eq_some_iff.mp h
    refine dx_callViw (pc := 6) (As := [.int x2]) (rest := []) hx dX9_readOn_6 k_X9_136 rfl rfl rfl rfl (dc_le rfl) (dc_le rfl) (dc_le rfl) (dc_le rfl) rfl (th_X9_begin h6) ?_
    obtain rfl := Option.some.inj h
    exact dx_iret hO (pc := 9) dX9_readOn_9 rfl ⟨_, rfl, rfl, rfl⟩
set_option maxHeartbeats 4000000 in
set_option maxRecDepth 100000 in
theorem tl_X9_fault_L9 {κ : dc_KX} {Q : Option Value → dc_HP → Prop} (hO : dc_Ok κ mX9_fault Q) : ∀ (n : Nat) (x1 : Int32) (x2 : Int32) (σ : dc_HP) (q : (Int32 × dc_HP) ⊕ (Int32 × dc_HP)), fn_X9_fault_L9 n x1 x2 σ = some q → ∀ (hk : ∀ m : Int32 × dc_HP, q = .inr m → dc_X κ 41 [some (.ref 55), some (.int m.1), none] [] m.2) (hr : ∀ r : Int32 × dc_HP, q = .inl r → Q (some (.int r.1)) r.2), dc_X κ 9 [some (.ref 55), some (.int x1), some (.int x2)] [] σ := by
  have hx : dc_Cx κ RX9 cX9_fault 3 3 70 := hO.1
  intro n
  induction n with
  | zero =>
    intro x1 x2 σ q h
    cases h
  | succ n ih =>
    intro x1 x2 σ q h hk hr
    unfold fn_X9_fault_L9 at h
    refine dx_iload_n (pc := 9) hx dX9_fault_9 rfl ?_
    refine dx_aload_n (pc := 10) hx dX9_fault_10 rfl ?_
    refine dx_getI (pc := 11) hx dX9_fault_11 f_X9_118 rfl rfl ?_
    refine dx_icmp_ge (pc := 14) hx dX9_fault_14 (tgt := 41) (by decide) (fun c14 => ?_) (fun c14 => ?_)
    · replace h := (if_pos c14).symm.trans h
      obtain rfl := Option.some.inj h
      exact dx_wk [true, true, false] <| (hk ((x1, σ)) rfl)
    · replace h := (if_neg c14).symm.trans h
      refine dx_aload_n (pc := 17) hx dX9_fault_17 rfl ?_
      refine dx_iload_n (pc := 18) hx dX9_fault_18 rfl ?_
      refine dx_aload_n (pc := 19) hx dX9_fault_19 rfl ?_
      refine dx_getR (r := 63) (pc := 20) hx dX9_fault_20 f_X9_31 rfl rfl ?_
      refine dx_iload_n (pc := 23) hx dX9_fault_23 rfl ?_
      by_cases g24 : x2 < 0 ∨ 60 ≤ x2.toNatClampNeg
      · cases (if_pos g24).symm.trans h
      replace h := (if_neg g24).symm.trans h
      refine dx_iald (pc := 24) hx dX9_fault_24 rfl g24 ?_
      obtain ⟨r25, h25, h⟩ := Option.bind_eq_some_iff.mp h
      refine dx_callViw (pc := 25) (As := [.int x1, .int (σ.1 63 x2.toNatClampNeg)]) (rest := []) hx dX9_fault_25 k_X9_143 rfl rfl rfl rfl (dc_le rfl) (dc_le rfl) (dc_le rfl) (dc_le rfl) rfl (th_X9_readOn h25) ?_
      refine dx_istore_n (pc := 28) hx dX9_fault_28 (dc_le rfl) (ls' := [some (.ref 55), some (.int r25.1), some (.int x2)]) rfl ?_
      refine dx_iload_n (pc := 29) hx dX9_fault_29 rfl ?_
      refine dx_if_ge (pc := 30) hx dX9_fault_30 (tgt := 35) (by decide) (fun c30 => ?_) (fun c30 => ?_)
      · replace h := (if_pos c30).symm.trans h
        refine dx_iinc (pc := 35) hx dX9_fault_35 rfl (v := x2 + nI 1) (congrArg (fun z => x2 + z) kc_1) (dc_le rfl) (ls' := [some (.ref 55), some (.int r25.1), some (.int (x2 + nI 1))]) rfl ?_
        refine dx_goto (pc := 38) hx dX9_fault_38 (tgt := 9) (by decide) ?_
        exact (ih r25.1 (x2 + nI 1) r25.2 q h hk hr)
      · replace h := (if_neg c30).symm.trans h
        refine dx_iload_n (pc := 33) hx dX9_fault_33 rfl ?_
        obtain rfl := Option.some.inj h
        exact dx_iret hO (pc := 34) dX9_fault_34 rfl (hr (x2, r25.2) rfl)
set_option maxHeartbeats 4000000 in
set_option maxRecDepth 100000 in
theorem th_X9_fault {σ : dc_HP} {r : Int32 × dc_HP} (h : fn_X9_fault σ = some r) : dc_G mX9_fault [.ref 55] σ (dc_qi (fun x τ => x = r.1 ∧ τ = r.2)) := by
  intro κ hO
  have hx : dc_Cx κ RX9 cX9_fault 3 3 70 := hO.1
  show dc_X κ 0 [some (.ref 55), none, none] [] σ
  unfold fn_X9_fault at h
  refine dx_aload_n (pc := 0) hx dX9_fault_0 rfl ?_
  refine dx_iconst (pc := 1) hx dX9_fault_1 kc_0 ?_
  refine dx_putI (pc := 2) hx dX9_fault_2 f_X9_121 rfl rfl tyX9_ok rfl (Or.inl ⟨rfl, rfl⟩) ?_
  refine dx_nm (fun s2 e2 => ?_)
  replace h := dc_lt e2 h
  refine dx_iconst (pc := 5) hx dX9_fault_5 kc_0 ?_
  refine dx_istore_n (pc := 6) hx dX9_fault_6 (dc_le rfl) (ls' := [some (.ref 55), some (.int (nI 0)), none]) rfl ?_
  refine dx_iconst (pc := 7) hx dX9_fault_7 kc_0 ?_
  refine dx_istore_n (pc := 8) hx dX9_fault_8 (dc_le rfl) (ls' := [some (.ref 55), some (.int (nI 0)), some (.int (nI 0))]) rfl ?_
  obtain ⟨q9, h9, h⟩ := Option.bind_eq_some_iff.mp h
  refine (tl_X9_fault_L9 hO  200 (nI 0) (nI 0) s2 q9 h9 (fun q9 e9 => ?_) (fun r9 e9 => ?_))
  rotate_left
  · subst e9
    obtain rfl := Option.some.inj h
    exact ⟨_, rfl, rfl, rfl⟩
  subst e9
  replace h := dc_inr h
  refine dx_iload_n (pc := 41) hx dX9_fault_41 rfl ?_
  refine dx_if_ne (pc := 42) hx dX9_fault_42 (tgt := 50) (by decide) (fun c42 => ?_) (fun c42 => ?_)
  · replace h := (if_neg c42).symm.trans h
    refine dx_aload_n (pc := 50) hx dX9_fault_50 rfl ?_
    refine dx_getI (pc := 51) hx dX9_fault_51 f_X9_118 rfl rfl ?_
    obtain rfl := Option.some.inj h
    exact dx_iret hO (pc := 54) dX9_fault_54 rfl ⟨_, rfl, rfl, rfl⟩
  · replace h := (if_pos c42).symm.trans h
    refine dx_bipush (pc := 45) hx dX9_fault_45 kb_m6 ?_
    refine dx_goto (pc := 47) hx dX9_fault_47 (tgt := 54) (by decide) ?_
    obtain rfl := Option.some.inj h
    exact dx_iret hO (pc := 54) dX9_fault_54 rfl ⟨_, rfl, rfl, rfl⟩
set_option maxHeartbeats 4000000 in
set_option maxRecDepth 100000 in
theorem tl_X9_keepNow_L2 {κ : dc_KX} {Q : Option Value → dc_HP → Prop} (hO : dc_Ok κ mX9_keepNow Q) : ∀ (n : Nat) (x1 : Int32) (σ : dc_HP) (q : dc_HP), fn_X9_keepNow_L2 n x1 σ = some q → ∀ (hk : dc_X κ 26 [some (.ref 55), none] [] q), dc_X κ 2 [some (.ref 55), some (.int x1)] [] σ := by
  have hx : dc_Cx κ RX9 cX9_keepNow 2 0 0 := hO.1
  intro n
  induction n with
  | zero =>
    intro x1 σ q h
    cases h
  | succ n ih =>
    intro x1 σ q h hk
    unfold fn_X9_keepNow_L2 at h
    refine dx_iload_n (pc := 2) hx dX9_keepNow_2 rfl ?_
    refine dx_bipush (pc := 3) hx dX9_keepNow_3 kb_8 ?_
    refine dx_icmp_ge (pc := 5) hx dX9_keepNow_5 (tgt := 26) (by decide) (fun c5 => ?_) (fun c5 => ?_)
    · replace h := (if_pos c5).symm.trans h
      obtain rfl := Option.some.inj h
      exact dx_wk [true, false] <| hk
    · replace h := (if_neg c5).symm.trans h
      refine dx_aload_n (pc := 8) hx dX9_keepNow_8 rfl ?_
      refine dx_getR (r := 67) (pc := 9) hx dX9_keepNow_9 f_X9_43 rfl rfl ?_
      refine dx_iload_n (pc := 12) hx dX9_keepNow_12 rfl ?_
      refine dx_aload_n (pc := 13) hx dX9_keepNow_13 rfl ?_
      refine dx_getR (r := 57) (pc := 14) hx dX9_keepNow_14 f_X9_13 rfl rfl ?_
      refine dx_iload_n (pc := 17) hx dX9_keepNow_17 rfl ?_
      by_cases g18 : x1 < 0 ∨ 8 ≤ x1.toNatClampNeg
      · cases (if_pos g18).symm.trans h
      replace h := (if_neg g18).symm.trans h
      refine dx_iald (pc := 18) hx dX9_keepNow_18 rfl g18 ?_
      by_cases g19 : x1 < 0 ∨ 11 ≤ x1.toNatClampNeg
      · cases (if_pos g19).symm.trans h
      replace h := (if_neg g19).symm.trans h
      refine dx_iast (pc := 19) hx dX9_keepNow_19 rfl g19 ?_
      refine dx_nm (fun s19 e19 => ?_)
      replace h := dc_lt e19 h
      refine dx_iinc (pc := 20) hx dX9_keepNow_20 rfl (v := x1 + nI 1) (congrArg (fun z => x1 + z) kc_1) (dc_le rfl) (ls' := [some (.ref 55), some (.int (x1 + nI 1))]) rfl ?_
      refine dx_goto (pc := 23) hx dX9_keepNow_23 (tgt := 2) (by decide) ?_
      exact (ih (x1 + nI 1) s19 q h hk)
set_option maxHeartbeats 4000000 in
set_option maxRecDepth 100000 in
theorem th_X9_keepNow {σ : dc_HP} {r : dc_HP} (h : fn_X9_keepNow σ = some r) : dc_G mX9_keepNow [.ref 55] σ (dc_qv (fun τ => τ = r)) := by
  intro κ hO
  have hx : dc_Cx κ RX9 cX9_keepNow 2 0 0 := hO.1
  show dc_X κ 0 [some (.ref 55), none] [] σ
  unfold fn_X9_keepNow at h
  refine dx_iconst (pc := 0) hx dX9_keepNow_0 kc_0 ?_
  refine dx_istore_n (pc := 1) hx dX9_keepNow_1 (dc_le rfl) (ls' := [some (.ref 55), some (.int (nI 0))]) rfl ?_
  obtain ⟨q2, h2, h⟩ := Option.bind_eq_some_iff.mp h
  refine (tl_X9_keepNow_L2 hO  200 (nI 0) σ q2 h2 ?_)
  refine dx_aload_n (pc := 26) hx dX9_keepNow_26 rfl ?_
  refine dx_getR (r := 67) (pc := 27) hx dX9_keepNow_27 f_X9_43 rfl rfl ?_
  refine dx_bipush (pc := 30) hx dX9_keepNow_30 kb_8 ?_
  refine dx_aload_n (pc := 32) hx dX9_keepNow_32 rfl ?_
  refine dx_getI (pc := 33) hx dX9_keepNow_33 f_X9_89 rfl rfl ?_
  refine dx_iast (pc := 36) hx dX9_keepNow_36 rfl (vp_in_nI (dc_le rfl) (dc_le rfl)) ?_
  refine dx_nm (fun s36 e36 => ?_)
  replace h := dc_lt e36 h
  refine dx_aload_n (pc := 37) hx dX9_keepNow_37 rfl ?_
  refine dx_getR (r := 67) (pc := 38) hx dX9_keepNow_38 f_X9_43 rfl rfl ?_
  refine dx_bipush (pc := 41) hx dX9_keepNow_41 kb_9 ?_
  refine dx_aload_n (pc := 43) hx dX9_keepNow_43 rfl ?_
  refine dx_getI (pc := 44) hx dX9_keepNow_44 f_X9_92 rfl rfl ?_
  refine dx_iast (pc := 47) hx dX9_keepNow_47 rfl (vp_in_nI (dc_le rfl) (dc_le rfl)) ?_
  refine dx_nm (fun s47 e47 => ?_)
  replace h := dc_lt e47 h
  refine dx_aload_n (pc := 48) hx dX9_keepNow_48 rfl ?_
  refine dx_getR (r := 67) (pc := 49) hx dX9_keepNow_49 f_X9_43 rfl rfl ?_
  refine dx_bipush (pc := 52) hx dX9_keepNow_52 kb_10 ?_
  refine dx_aload_n (pc := 54) hx dX9_keepNow_54 rfl ?_
  refine dx_getI (pc := 55) hx dX9_keepNow_55 f_X9_154 rfl rfl ?_
  refine dx_iast (pc := 58) hx dX9_keepNow_58 rfl (vp_in_nI (dc_le rfl) (dc_le rfl)) ?_
  obtain rfl := Option.some.inj h
  exact dx_vret hO (pc := 59) dX9_keepNow_59 rfl ⟨rfl, rfl⟩
set_option maxHeartbeats 4000000 in
set_option maxRecDepth 100000 in
theorem th_X9_whyNotTake {σ : dc_HP} {x1 : Int32} {x2 : Int32} {r : Int32} (h : fn_X9_whyNotTake σ x1 x2 = some r) : dc_G mX9_whyNotTake [.ref 55, .int x1, .int x2] σ (dc_qi (fun x τ => x = r ∧ τ = σ)) := by
  intro κ hO
  have hx : dc_Cx κ RX9 cX9_whyNotTake 3 2 46 := hO.1
  show dc_X κ 0 [some (.ref 55), some (.int x1), some (.int x2)] [] σ
  unfold fn_X9_whyNotTake at h
  refine dx_aload_n (pc := 0) hx dX9_whyNotTake_0 rfl ?_
  refine dx_iload_n (pc := 1) hx dX9_whyNotTake_1 rfl ?_
  obtain ⟨r2, h2, h⟩ := Option.bind_eq_some_iff.mp h
  refine dx_callVir (pc := 2) (As := [.int x2]) (rest := []) hx dX9_whyNotTake_2 k_X9_99 rfl rfl rfl rfl (dc_le rfl) (dc_le rfl) (dc_le rfl) (dc_le rfl) rfl (th_X9_isSinger h2) ?_
  refine dx_if_ne (pc := 5) hx dX9_whyNotTake_5 (tgt := 10) (by decide) (fun c5 => ?_) (fun c5 => ?_)
  · replace h := (if_neg c5).symm.trans h
    refine dx_iload_n (pc := 10) hx dX9_whyNotTake_10 rfl ?_
    refine dx_iload_n (pc := 11) hx dX9_whyNotTake_11 rfl ?_
    refine dx_icmp_eq (pc := 12) hx dX9_whyNotTake_12 (tgt := 24) (by decide) (fun c12 => ?_) (fun c12 => ?_)
    · replace h := (if_pos c12).symm.trans h
      refine dx_iconst (pc := 24) hx dX9_whyNotTake_24 kc_2 ?_
      obtain rfl := Option.some.inj h
      exact dx_iret hO (pc := 25) dX9_whyNotTake_25 rfl ⟨_, rfl, rfl, rfl⟩
    · replace h := (if_neg c12).symm.trans h
      refine dx_aload_n (pc := 15) hx dX9_whyNotTake_15 rfl ?_
      refine dx_getR (r := 57) (pc := 16) hx dX9_whyNotTake_16 f_X9_13 rfl rfl ?_
      refine dx_iload_n (pc := 19) hx dX9_whyNotTake_19 rfl ?_
      by_cases g20 : x1 < 0 ∨ 8 ≤ x1.toNatClampNeg
      · cases (if_pos g20).symm.trans h
      replace h := (if_neg g20).symm.trans h
      refine dx_iald (pc := 20) hx dX9_whyNotTake_20 rfl g20 ?_
      refine dx_if_ne (pc := 21) hx dX9_whyNotTake_21 (tgt := 26) (by decide) (fun c21 => ?_) (fun c21 => ?_)
      · replace h := (if_neg c21).symm.trans h
        refine dx_aload_n (pc := 26) hx dX9_whyNotTake_26 rfl ?_
        refine dx_getR (r := 57) (pc := 27) hx dX9_whyNotTake_27 f_X9_13 rfl rfl ?_
        refine dx_iload_n (pc := 30) hx dX9_whyNotTake_30 rfl ?_
        by_cases g31 : x1 < 0 ∨ 8 ≤ x1.toNatClampNeg
        · cases (if_pos g31).symm.trans h
        replace h := (if_neg g31).symm.trans h
        refine dx_iald (pc := 31) hx dX9_whyNotTake_31 rfl g31 ?_
        refine dx_aload_n (pc := 32) hx dX9_whyNotTake_32 rfl ?_
        refine dx_getR (r := 57) (pc := 33) hx dX9_whyNotTake_33 f_X9_13 rfl rfl ?_
        refine dx_iload_n (pc := 36) hx dX9_whyNotTake_36 rfl ?_
        by_cases g37 : x2 < 0 ∨ 8 ≤ x2.toNatClampNeg
        · cases (if_pos g37).symm.trans h
        replace h := (if_neg g37).symm.trans h
        refine dx_iald (pc := 37) hx dX9_whyNotTake_37 rfl g37 ?_
        refine dx_iadd (pc := 38) hx dX9_whyNotTake_38 ?_
        refine dx_sipush (pc := 39) hx dX9_whyNotTake_39 ks_999 ?_
        refine dx_icmp_le (pc := 42) hx dX9_whyNotTake_42 (tgt := 49) (by decide) (fun c42 => ?_) (fun c42 => ?_)
        · replace h := (if_pos c42).symm.trans h
          refine dx_iconst (pc := 49) hx dX9_whyNotTake_49 kc_0 ?_
          obtain rfl := Option.some.inj h
          exact dx_iret hO (pc := 50) dX9_whyNotTake_50 rfl ⟨_, rfl, rfl, rfl⟩
        · replace h := (if_neg c42).symm.trans h
          refine dx_iconst (pc := 45) hx dX9_whyNotTake_45 kc_3 ?_
          refine dx_goto (pc := 46) hx dX9_whyNotTake_46 (tgt := 50) (by decide) ?_
          obtain rfl := Option.some.inj h
          exact dx_iret hO (pc := 50) dX9_whyNotTake_50 rfl ⟨_, rfl, rfl, rfl⟩
      · replace h := (if_pos c21).symm.trans h
        refine dx_iconst (pc := 24) hx dX9_whyNotTake_24 kc_2 ?_
        obtain rfl := Option.some.inj h
        exact dx_iret hO (pc := 25) dX9_whyNotTake_25 rfl ⟨_, rfl, rfl, rfl⟩
  · replace h := (if_pos c5).symm.trans h
    refine dx_iconst (pc := 8) hx dX9_whyNotTake_8 kc_1 ?_
    obtain rfl := Option.some.inj h
    exact dx_iret hO (pc := 9) dX9_whyNotTake_9 rfl ⟨_, rfl, rfl, rfl⟩
set_option maxHeartbeats 4000000 in
set_option maxRecDepth 100000 in
theorem th_X9_mayHere {σ : dc_HP} {x1 : Int32} {x2 : Int32} {r : Int32} (h : fn_X9_mayHere σ x1 x2 = some r) : dc_G mX9_mayHere [.ref 55, .int x1, .int x2] σ (dc_qi (fun x τ => x = r ∧ τ = σ)) := by
  intro κ hO
  have hx : dc_Cx κ RX9 cX9_mayHere 3 2 46 := hO.1
  show dc_X κ 0 [some (.ref 55), some (.int x1), some (.int x2)] [] σ
  unfold fn_X9_mayHere at h
  refine dx_aload_n (pc := 0) hx dX9_mayHere_0 rfl ?_
  refine dx_iload_n (pc := 1) hx dX9_mayHere_1 rfl ?_
  obtain ⟨r2, h2, h⟩ := Option.bind_eq_some_iff.mp h
  refine dx_callVir (pc := 2) (As := [.int x1]) (rest := []) hx dX9_mayHere_2 k_X9_99 rfl rfl rfl rfl (dc_le rfl) (dc_le rfl) (dc_le rfl) (dc_le rfl) rfl (th_X9_isSinger h2) ?_
  refine dx_if_eq (pc := 5) hx dX9_mayHere_5 (tgt := 44) (by decide) (fun c5 => ?_) (fun c5 => ?_)
  · replace h := (if_pos c5).symm.trans h
    refine dx_iconst (pc := 44) hx dX9_mayHere_44 kc_0 ?_
    obtain rfl := Option.some.inj h
    exact dx_zret hO (pc := 45) dX9_mayHere_45 rfl rfl ⟨_, rfl, rfl, rfl⟩
  · replace h := (if_neg c5).symm.trans h
    refine dx_aload_n (pc := 8) hx dX9_mayHere_8 rfl ?_
    refine dx_getR (r := 56) (pc := 9) hx dX9_mayHere_9 f_X9_7 rfl rfl ?_
    refine dx_iload_n (pc := 12) hx dX9_mayHere_12 rfl ?_
    by_cases g13 : x1 < 0 ∨ 8 ≤ x1.toNatClampNeg
    · cases (if_pos g13).symm.trans h
    replace h := (if_neg g13).symm.trans h
    refine dx_iald (pc := 13) hx dX9_mayHere_13 rfl g13 ?_
    refine dx_iload_n (pc := 14) hx dX9_mayHere_14 rfl ?_
    refine dx_icmp_ne (pc := 15) hx dX9_mayHere_15 (tgt := 44) (by decide) (fun c15 => ?_) (fun c15 => ?_)
    · replace h := (if_neg c15).symm.trans h
      refine dx_iconst (pc := 44) hx dX9_mayHere_44 kc_0 ?_
      obtain rfl := Option.some.inj h
      exact dx_zret hO (pc := 45) dX9_mayHere_45 rfl rfl ⟨_, rfl, rfl, rfl⟩
    · replace h := (if_pos c15).symm.trans h
      refine dx_aload_n (pc := 18) hx dX9_mayHere_18 rfl ?_
      refine dx_getI (pc := 19) hx dX9_mayHere_19 f_X9_89 rfl rfl ?_
      refine dx_iload_n (pc := 22) hx dX9_mayHere_22 rfl ?_
      refine dx_ishr (pc := 23) hx dX9_mayHere_23 ?_
      refine dx_iconst (pc := 24) hx dX9_mayHere_24 kc_1 ?_
      refine dx_iand (pc := 25) hx dX9_mayHere_25 ?_
      refine dx_if_ne (pc := 26) hx dX9_mayHere_26 (tgt := 44) (by decide) (fun c26 => ?_) (fun c26 => ?_)
      · replace h := (if_neg c26).symm.trans h
        refine dx_iconst (pc := 44) hx dX9_mayHere_44 kc_0 ?_
        obtain rfl := Option.some.inj h
        exact dx_zret hO (pc := 45) dX9_mayHere_45 rfl rfl ⟨_, rfl, rfl, rfl⟩
      · replace h := (if_pos c26).symm.trans h
        refine dx_aload_n (pc := 29) hx dX9_mayHere_29 rfl ?_
        refine dx_getI (pc := 30) hx dX9_mayHere_30 f_X9_92 rfl rfl ?_
        refine dx_iload_n (pc := 33) hx dX9_mayHere_33 rfl ?_
        refine dx_ishr (pc := 34) hx dX9_mayHere_34 ?_
        refine dx_iconst (pc := 35) hx dX9_mayHere_35 kc_1 ?_
        refine dx_iand (pc := 36) hx dX9_mayHere_36 ?_
        refine dx_if_ne (pc := 37) hx dX9_mayHere_37 (tgt := 44) (by decide) (fun c37 => ?_) (fun c37 => ?_)
        · replace h := (if_neg c37).symm.trans h
          refine dx_iconst (pc := 44) hx dX9_mayHere_44 kc_0 ?_
          obtain rfl := Option.some.inj h
          exact dx_zret hO (pc := 45) dX9_mayHere_45 rfl rfl ⟨_, rfl, rfl, rfl⟩
        · replace h := (if_pos c37).symm.trans h
          refine dx_iconst (pc := 40) hx dX9_mayHere_40 kc_1 ?_
          refine dx_goto (pc := 41) hx dX9_mayHere_41 (tgt := 45) (by decide) ?_
          obtain rfl := Option.some.inj h
          exact dx_zret hO (pc := 45) dX9_mayHere_45 rfl rfl ⟨_, rfl, rfl, rfl⟩
set_option maxHeartbeats 4000000 in
set_option maxRecDepth 100000 in
theorem tl_X9_ready_L5 {κ : dc_KX} {Q : Option Value → dc_HP → Prop} (hO : dc_Ok κ mX9_ready Q) (σ : dc_HP) (x1 : Int32) (x2 : Int32) : ∀ (n : Nat) (x3 : Int32) (x4 : Int32) (q : Int32), fn_X9_ready_L5 σ x1 x2 n x3 x4 = some q → ∀ (hk : dc_X κ 55 [some (.ref 55), some (.int x1), some (.int x2), some (.int q), none] [] σ), dc_X κ 5 [some (.ref 55), some (.int x1), some (.int x2), some (.int x3), some (.int x4)] [] σ := by
  have hx : dc_Cx κ RX9 cX9_ready 5 3 68 := hO.1
  intro n
  induction n with
  | zero =>
    intro x3 x4 q h
    cases h
  | succ n ih =>
    intro x3 x4 q h hk
    unfold fn_X9_ready_L5 at h
    refine dx_iload (pc := 5) hx dX9_ready_5 rfl ?_
    refine dx_bipush (pc := 7) hx dX9_ready_7 kb_8 ?_
    refine dx_icmp_ge (pc := 9) hx dX9_ready_9 (tgt := 55) (by decide) (fun c9 => ?_) (fun c9 => ?_)
    · replace h := (if_pos c9).symm.trans h
      obtain rfl := Option.some.inj h
      exact dx_wk [true, true, true, true, false] <| hk
    · replace h := (if_neg c9).symm.trans h
      refine dx_iload_n (pc := 12) hx dX9_ready_12 rfl ?_
      refine dx_aload_n (pc := 13) hx dX9_ready_13 rfl ?_
      refine dx_iload (pc := 14) hx dX9_ready_14 rfl ?_
      refine dx_iload_n (pc := 16) hx dX9_ready_16 rfl ?_
      obtain ⟨r17, h17, h⟩ := Option.bind_eq_some_iff.mp h
      refine dx_callVir (pc := 17) (As := [.int x4, .int x1]) (rest := [.int x3]) hx dX9_ready_17 k_X9_146 rfl rfl rfl rfl (dc_le rfl) (dc_le rfl) (dc_le rfl) (dc_le rfl) rfl (th_X9_mayHere h17) ?_
      refine dx_if_eq (pc := 20) hx dX9_ready_20 (tgt := 46) (by decide) (fun c20 => ?_) (fun c20 => ?_)
      · replace h := (if_pos c20).symm.trans h
        refine dx_iconst (pc := 46) hx dX9_ready_46 kc_0 ?_
        refine dx_iadd (pc := 47) hx dX9_ready_47 ?_
        refine dx_istore_n (pc := 48) hx dX9_ready_48 (dc_le rfl) (ls' := [some (.ref 55), some (.int x1), some (.int x2), some (.int (x3 + (nI 0))), some (.int x4)]) rfl ?_
        refine dx_iinc (pc := 49) hx dX9_ready_49 rfl (v := x4 + nI 1) (congrArg (fun z => x4 + z) kc_1) (dc_le rfl) (ls' := [some (.ref 55), some (.int x1), some (.int x2), some (.int (x3 + (nI 0))), some (.int (x4 + nI 1))]) rfl ?_
        refine dx_goto (pc := 52) hx dX9_ready_52 (tgt := 5) (by decide) ?_
        exact (ih (x3 + (nI 0)) (x4 + nI 1) q h hk)
      · replace h := (if_neg c20).symm.trans h
        refine dx_aload_n (pc := 23) hx dX9_ready_23 rfl ?_
        refine dx_getR (r := 57) (pc := 24) hx dX9_ready_24 f_X9_13 rfl rfl ?_
        refine dx_iload (pc := 27) hx dX9_ready_27 rfl ?_
        by_cases g29 : x4 < 0 ∨ 8 ≤ x4.toNatClampNeg
        · cases (if_pos g29).symm.trans h
        replace h := (if_neg g29).symm.trans h
        refine dx_iald (pc := 29) hx dX9_ready_29 rfl g29 ?_
        refine dx_if_le (pc := 30) hx dX9_ready_30 (tgt := 37) (by decide) (fun c30 => ?_) (fun c30 => ?_)
        · replace h := (if_pos c30).symm.trans h
          refine dx_iconst (pc := 37) hx dX9_ready_37 kc_0 ?_
          refine dx_iload_n (pc := 38) hx dX9_ready_38 rfl ?_
          refine dx_icmp_ne (pc := 39) hx dX9_ready_39 (tgt := 46) (by decide) (fun c39 => ?_) (fun c39 => ?_)
          · replace h := (if_neg c39).symm.trans h
            refine dx_iconst (pc := 46) hx dX9_ready_46 kc_0 ?_
            refine dx_iadd (pc := 47) hx dX9_ready_47 ?_
            refine dx_istore_n (pc := 48) hx dX9_ready_48 (dc_le rfl) (ls' := [some (.ref 55), some (.int x1), some (.int x2), some (.int (x3 + (nI 0))), some (.int x4)]) rfl ?_
            refine dx_iinc (pc := 49) hx dX9_ready_49 rfl (v := x4 + nI 1) (congrArg (fun z => x4 + z) kc_1) (dc_le rfl) (ls' := [some (.ref 55), some (.int x1), some (.int x2), some (.int (x3 + (nI 0))), some (.int (x4 + nI 1))]) rfl ?_
            refine dx_goto (pc := 52) hx dX9_ready_52 (tgt := 5) (by decide) ?_
            exact (ih (x3 + (nI 0)) (x4 + nI 1) q h hk)
          · replace h := (if_pos c39).symm.trans h
            refine dx_iconst (pc := 42) hx dX9_ready_42 kc_1 ?_
            refine dx_goto (pc := 43) hx dX9_ready_43 (tgt := 47) (by decide) ?_
            refine dx_iadd (pc := 47) hx dX9_ready_47 ?_
            refine dx_istore_n (pc := 48) hx dX9_ready_48 (dc_le rfl) (ls' := [some (.ref 55), some (.int x1), some (.int x2), some (.int (x3 + (nI 1))), some (.int x4)]) rfl ?_
            refine dx_iinc (pc := 49) hx dX9_ready_49 rfl (v := x4 + nI 1) (congrArg (fun z => x4 + z) kc_1) (dc_le rfl) (ls' := [some (.ref 55), some (.int x1), some (.int x2), some (.int (x3 + (nI 1))), some (.int (x4 + nI 1))]) rfl ?_
            refine dx_goto (pc := 52) hx dX9_ready_52 (tgt := 5) (by decide) ?_
            exact (ih (x3 + (nI 1)) (x4 + nI 1) q h hk)
        · replace h := (if_neg c30).symm.trans h
          refine dx_iconst (pc := 33) hx dX9_ready_33 kc_1 ?_
          refine dx_goto (pc := 34) hx dX9_ready_34 (tgt := 38) (by decide) ?_
          refine dx_iload_n (pc := 38) hx dX9_ready_38 rfl ?_
          refine dx_icmp_ne (pc := 39) hx dX9_ready_39 (tgt := 46) (by decide) (fun c39 => ?_) (fun c39 => ?_)
          · replace h := (if_neg c39).symm.trans h
            refine dx_iconst (pc := 46) hx dX9_ready_46 kc_0 ?_
            refine dx_iadd (pc := 47) hx dX9_ready_47 ?_
            refine dx_istore_n (pc := 48) hx dX9_ready_48 (dc_le rfl) (ls' := [some (.ref 55), some (.int x1), some (.int x2), some (.int (x3 + (nI 0))), some (.int x4)]) rfl ?_
            refine dx_iinc (pc := 49) hx dX9_ready_49 rfl (v := x4 + nI 1) (congrArg (fun z => x4 + z) kc_1) (dc_le rfl) (ls' := [some (.ref 55), some (.int x1), some (.int x2), some (.int (x3 + (nI 0))), some (.int (x4 + nI 1))]) rfl ?_
            refine dx_goto (pc := 52) hx dX9_ready_52 (tgt := 5) (by decide) ?_
            exact (ih (x3 + (nI 0)) (x4 + nI 1) q h hk)
          · replace h := (if_pos c39).symm.trans h
            refine dx_iconst (pc := 42) hx dX9_ready_42 kc_1 ?_
            refine dx_goto (pc := 43) hx dX9_ready_43 (tgt := 47) (by decide) ?_
            refine dx_iadd (pc := 47) hx dX9_ready_47 ?_
            refine dx_istore_n (pc := 48) hx dX9_ready_48 (dc_le rfl) (ls' := [some (.ref 55), some (.int x1), some (.int x2), some (.int (x3 + (nI 1))), some (.int x4)]) rfl ?_
            refine dx_iinc (pc := 49) hx dX9_ready_49 rfl (v := x4 + nI 1) (congrArg (fun z => x4 + z) kc_1) (dc_le rfl) (ls' := [some (.ref 55), some (.int x1), some (.int x2), some (.int (x3 + (nI 1))), some (.int (x4 + nI 1))]) rfl ?_
            refine dx_goto (pc := 52) hx dX9_ready_52 (tgt := 5) (by decide) ?_
            exact (ih (x3 + (nI 1)) (x4 + nI 1) q h hk)
set_option maxHeartbeats 4000000 in
set_option maxRecDepth 100000 in
theorem th_X9_ready {σ : dc_HP} {x1 : Int32} {x2 : Int32} {r : Int32} (h : fn_X9_ready σ x1 x2 = some r) : dc_G mX9_ready [.ref 55, .int x1, .int x2] σ (dc_qi (fun x τ => x = r ∧ τ = σ)) := by
  intro κ hO
  have hx : dc_Cx κ RX9 cX9_ready 5 3 68 := hO.1
  show dc_X κ 0 [some (.ref 55), some (.int x1), some (.int x2), none, none] [] σ
  unfold fn_X9_ready at h
  refine dx_iconst (pc := 0) hx dX9_ready_0 kc_0 ?_
  refine dx_istore_n (pc := 1) hx dX9_ready_1 (dc_le rfl) (ls' := [some (.ref 55), some (.int x1), some (.int x2), some (.int (nI 0)), none]) rfl ?_
  refine dx_iconst (pc := 2) hx dX9_ready_2 kc_0 ?_
  refine dx_istore (pc := 3) hx dX9_ready_3 (dc_le rfl) (ls' := [some (.ref 55), some (.int x1), some (.int x2), some (.int (nI 0)), some (.int (nI 0))]) rfl ?_
  obtain ⟨q5, h5, h⟩ := Option.bind_eq_some_iff.mp h
  refine (tl_X9_ready_L5 hO σ x1 x2 200 (nI 0) (nI 0) q5 h5 ?_)
  refine dx_iload_n (pc := 55) hx dX9_ready_55 rfl ?_
  obtain rfl := Option.some.inj h
  exact dx_iret hO (pc := 56) dX9_ready_56 rfl ⟨_, rfl, rfl, rfl⟩
set_option maxHeartbeats 4000000 in
set_option maxRecDepth 100000 in
theorem tl_X9_canBeSung_L4 {κ : dc_KX} {Q : Option Value → dc_HP → Prop} (hO : dc_Ok κ mX9_canBeSung Q) (σ : dc_HP) (x1 : Int32) : ∀ (n : Nat) (x2 : Int32) (x3 : Int32) (q : Int32), fn_X9_canBeSung_L4 σ x1 n x2 x3 = some q → ∀ (hk : dc_X κ 44 [some (.ref 55), some (.int x1), some (.int q), none] [] σ), dc_X κ 4 [some (.ref 55), some (.int x1), some (.int x2), some (.int x3)] [] σ := by
  have hx : dc_Cx κ RX9 cX9_canBeSung 4 4 92 := hO.1
  intro n
  induction n with
  | zero =>
    intro x2 x3 q h
    cases h
  | succ n ih =>
    intro x2 x3 q h hk
    unfold fn_X9_canBeSung_L4 at h
    refine dx_iload_n (pc := 4) hx dX9_canBeSung_4 rfl ?_
    refine dx_iconst (pc := 5) hx dX9_canBeSung_5 kc_4 ?_
    refine dx_icmp_ge (pc := 6) hx dX9_canBeSung_6 (tgt := 44) (by decide) (fun c6 => ?_) (fun c6 => ?_)
    · replace h := (if_pos c6).symm.trans h
      obtain rfl := Option.some.inj h
      exact dx_wk [true, true, true, false] <| hk
    · replace h := (if_neg c6).symm.trans h
      refine dx_iload_n (pc := 9) hx dX9_canBeSung_9 rfl ?_
      refine dx_if_eq (pc := 10) hx dX9_canBeSung_10 (tgt := 36) (by decide) (fun c10 => ?_) (fun c10 => ?_)
      · replace h := (if_pos c10).symm.trans h
        refine dx_iconst (pc := 36) hx dX9_canBeSung_36 kc_0 ?_
        refine dx_istore_n (pc := 37) hx dX9_canBeSung_37 (dc_le rfl) (ls' := [some (.ref 55), some (.int x1), some (.int (nI 0)), some (.int x3)]) rfl ?_
        refine dx_iinc (pc := 38) hx dX9_canBeSung_38 rfl (v := x3 + nI 1) (congrArg (fun z => x3 + z) kc_1) (dc_le rfl) (ls' := [some (.ref 55), some (.int x1), some (.int (nI 0)), some (.int (x3 + nI 1))]) rfl ?_
        refine dx_goto (pc := 41) hx dX9_canBeSung_41 (tgt := 4) (by decide) ?_
        exact (ih (nI 0) (x3 + nI 1) q h hk)
      · replace h := (if_neg c10).symm.trans h
        refine dx_aload_n (pc := 13) hx dX9_canBeSung_13 rfl ?_
        refine dx_iload_n (pc := 14) hx dX9_canBeSung_14 rfl ?_
        refine dx_iconst (pc := 15) hx dX9_canBeSung_15 kc_1 ?_
        obtain ⟨r16, h16, h⟩ := Option.bind_eq_some_iff.mp h
        refine dx_callVir (pc := 16) (As := [.int x3, .int (nI 1)]) (rest := []) hx dX9_canBeSung_16 k_X9_150 rfl rfl rfl rfl (dc_le rfl) (dc_le rfl) (dc_le rfl) (dc_le rfl) rfl (th_X9_ready h16) ?_
        refine dx_aload_n (pc := 19) hx dX9_canBeSung_19 rfl ?_
        refine dx_getR (r := 58) (pc := 20) hx dX9_canBeSung_20 f_X9_16 rfl rfl ?_
        refine dx_iconst (pc := 23) hx dX9_canBeSung_23 kc_4 ?_
        refine dx_iload_n (pc := 24) hx dX9_canBeSung_24 rfl ?_
        refine dx_imul (pc := 25) hx dX9_canBeSung_25 ?_
        refine dx_iload_n (pc := 26) hx dX9_canBeSung_26 rfl ?_
        refine dx_iadd (pc := 27) hx dX9_canBeSung_27 ?_
        by_cases g28 : (((nI 4) * x1) + x3) < 0 ∨ 24 ≤ (((nI 4) * x1) + x3).toNatClampNeg
        · cases (if_pos g28).symm.trans h
        replace h := (if_neg g28).symm.trans h
        refine dx_iald (pc := 28) hx dX9_canBeSung_28 rfl g28 ?_
        refine dx_icmp_lt (pc := 29) hx dX9_canBeSung_29 (tgt := 36) (by decide) (fun c29 => ?_) (fun c29 => ?_)
        · replace h := (if_pos c29).symm.trans h
          refine dx_iconst (pc := 36) hx dX9_canBeSung_36 kc_0 ?_
          refine dx_istore_n (pc := 37) hx dX9_canBeSung_37 (dc_le rfl) (ls' := [some (.ref 55), some (.int x1), some (.int (nI 0)), some (.int x3)]) rfl ?_
          refine dx_iinc (pc := 38) hx dX9_canBeSung_38 rfl (v := x3 + nI 1) (congrArg (fun z => x3 + z) kc_1) (dc_le rfl) (ls' := [some (.ref 55), some (.int x1), some (.int (nI 0)), some (.int (x3 + nI 1))]) rfl ?_
          refine dx_goto (pc := 41) hx dX9_canBeSung_41 (tgt := 4) (by decide) ?_
          exact (ih (nI 0) (x3 + nI 1) q h hk)
        · replace h := (if_neg c29).symm.trans h
          refine dx_iconst (pc := 32) hx dX9_canBeSung_32 kc_1 ?_
          refine dx_goto (pc := 33) hx dX9_canBeSung_33 (tgt := 37) (by decide) ?_
          refine dx_istore_n (pc := 37) hx dX9_canBeSung_37 (dc_le rfl) (ls' := [some (.ref 55), some (.int x1), some (.int (nI 1)), some (.int x3)]) rfl ?_
          refine dx_iinc (pc := 38) hx dX9_canBeSung_38 rfl (v := x3 + nI 1) (congrArg (fun z => x3 + z) kc_1) (dc_le rfl) (ls' := [some (.ref 55), some (.int x1), some (.int (nI 1)), some (.int (x3 + nI 1))]) rfl ?_
          refine dx_goto (pc := 41) hx dX9_canBeSung_41 (tgt := 4) (by decide) ?_
          exact (ih (nI 1) (x3 + nI 1) q h hk)
set_option maxHeartbeats 4000000 in
set_option maxRecDepth 100000 in
theorem th_X9_canBeSung {σ : dc_HP} {x1 : Int32} {r : Int32} (h : fn_X9_canBeSung σ x1 = some r) : dc_G mX9_canBeSung [.ref 55, .int x1] σ (dc_qi (fun x τ => x = r ∧ τ = σ)) := by
  intro κ hO
  have hx : dc_Cx κ RX9 cX9_canBeSung 4 4 92 := hO.1
  show dc_X κ 0 [some (.ref 55), some (.int x1), none, none] [] σ
  unfold fn_X9_canBeSung at h
  refine dx_iconst (pc := 0) hx dX9_canBeSung_0 kc_1 ?_
  refine dx_istore_n (pc := 1) hx dX9_canBeSung_1 (dc_le rfl) (ls' := [some (.ref 55), some (.int x1), some (.int (nI 1)), none]) rfl ?_
  refine dx_iconst (pc := 2) hx dX9_canBeSung_2 kc_0 ?_
  refine dx_istore_n (pc := 3) hx dX9_canBeSung_3 (dc_le rfl) (ls' := [some (.ref 55), some (.int x1), some (.int (nI 1)), some (.int (nI 0))]) rfl ?_
  obtain ⟨q4, h4, h⟩ := Option.bind_eq_some_iff.mp h
  refine (tl_X9_canBeSung_L4 hO σ x1 200 (nI 1) (nI 0) q4 h4 ?_)
  refine dx_iload_n (pc := 44) hx dX9_canBeSung_44 rfl ?_
  by_cases g45 : q4 = 0 ∨ q4 = 1
  rotate_left
  · cases (if_neg g45).symm.trans h
  replace h := (if_pos g45).symm.trans h
  obtain rfl := Option.some.inj h
  exact dx_zret hO (pc := 45) dX9_canBeSung_45 rfl (dc_bn g45) ⟨_, rfl, rfl, rfl⟩
set_option maxHeartbeats 4000000 in
set_option maxRecDepth 100000 in
theorem th_X9_whyNot {σ : dc_HP} {x1 : Int32} {x2 : Int32} {x3 : Int32} {r : Int32} (h : fn_X9_whyNot σ x1 x2 x3 = some r) : dc_G mX9_whyNot [.ref 55, .int x1, .int x2, .int x3] σ (dc_qi (fun x τ => x = r ∧ τ = σ)) := by
  intro κ hO
  have hx : dc_Cx κ RX9 cX9_whyNot 4 5 115 := hO.1
  show dc_X κ 0 [some (.ref 55), some (.int x1), some (.int x2), some (.int x3)] [] σ
  unfold fn_X9_whyNot at h
  refine dx_iload_n (pc := 0) hx dX9_whyNot_0 rfl ?_
  refine dx_iconst (pc := 1) hx dX9_whyNot_1 kc_5 ?_
  refine dx_icmp_ne (pc := 2) hx dX9_whyNot_2 (tgt := 20) (by decide) (fun c2 => ?_) (fun c2 => ?_)
  · replace h := (if_neg c2).symm.trans h
    refine dx_iload_n (pc := 20) hx dX9_whyNot_20 rfl ?_
    refine dx_if_ne (pc := 21) hx dX9_whyNot_21 (tgt := 38) (by decide) (fun c21 => ?_) (fun c21 => ?_)
    · replace h := (if_neg c21).symm.trans h
      refine dx_aload_n (pc := 38) hx dX9_whyNot_38 rfl ?_
      refine dx_iload_n (pc := 39) hx dX9_whyNot_39 rfl ?_
      obtain ⟨r40, h40, h⟩ := Option.bind_eq_some_iff.mp h
      refine dx_callVir (pc := 40) (As := [.int x2]) (rest := []) hx dX9_whyNot_40 k_X9_99 rfl rfl rfl rfl (dc_le rfl) (dc_le rfl) (dc_le rfl) (dc_le rfl) rfl (th_X9_isSinger h40) ?_
      refine dx_if_ne (pc := 43) hx dX9_whyNot_43 (tgt := 48) (by decide) (fun c43 => ?_) (fun c43 => ?_)
      · replace h := (if_neg c43).symm.trans h
        refine dx_iload_n (pc := 48) hx dX9_whyNot_48 rfl ?_
        by_cases c49_1 : x1 = nI 1
        · replace h := (if_pos c49_1).symm.trans h
          refine dx_tableIn (pc := 49) hx dX9_whyNot_49 (by rw [c49_1]; decide) (by rw [c49_1]; decide) (off := 31) (by rw [c49_1]; decide) (tgt := 80) (by decide) ?_
          refine dx_aload_n (pc := 80) hx dX9_whyNot_80 rfl ?_
          refine dx_getR (r := 57) (pc := 81) hx dX9_whyNot_81 f_X9_13 rfl rfl ?_
          refine dx_iload_n (pc := 84) hx dX9_whyNot_84 rfl ?_
          by_cases g85 : x2 < 0 ∨ 8 ≤ x2.toNatClampNeg
          · cases (if_pos g85).symm.trans h
          replace h := (if_neg g85).symm.trans h
          refine dx_iald (pc := 85) hx dX9_whyNot_85 rfl g85 ?_
          refine dx_iload_n (pc := 86) hx dX9_whyNot_86 rfl ?_
          refine dx_iadd (pc := 87) hx dX9_whyNot_87 ?_
          refine dx_sipush (pc := 88) hx dX9_whyNot_88 ks_999 ?_
          refine dx_icmp_le (pc := 91) hx dX9_whyNot_91 (tgt := 98) (by decide) (fun c91 => ?_) (fun c91 => ?_)
          · replace h := (if_pos c91).symm.trans h
            refine dx_iconst (pc := 98) hx dX9_whyNot_98 kc_0 ?_
            obtain rfl := Option.some.inj h
            exact dx_iret hO (pc := 99) dX9_whyNot_99 rfl ⟨_, rfl, rfl, rfl⟩
          · replace h := (if_neg c91).symm.trans h
            refine dx_iconst (pc := 94) hx dX9_whyNot_94 kc_3 ?_
            refine dx_goto (pc := 95) hx dX9_whyNot_95 (tgt := 99) (by decide) ?_
            obtain rfl := Option.some.inj h
            exact dx_iret hO (pc := 99) dX9_whyNot_99 rfl ⟨_, rfl, rfl, rfl⟩
        replace h := (if_neg c49_1).symm.trans h
        by_cases c49_2 : x1 = nI 2
        · replace h := (if_pos c49_2).symm.trans h
          refine dx_tableIn (pc := 49) hx dX9_whyNot_49 (by rw [c49_2]; decide) (by rw [c49_2]; decide) (off := 73) (by rw [c49_2]; decide) (tgt := 122) (by decide) ?_
          refine dx_iconst (pc := 122) hx dX9_whyNot_122 kc_0 ?_
          obtain rfl := Option.some.inj h
          exact dx_iret hO (pc := 123) dX9_whyNot_123 rfl ⟨_, rfl, rfl, rfl⟩
        replace h := (if_neg c49_2).symm.trans h
        by_cases c49_3 : x1 = nI 3
        · replace h := (if_pos c49_3).symm.trans h
          refine dx_tableIn (pc := 49) hx dX9_whyNot_49 (by rw [c49_3]; decide) (by rw [c49_3]; decide) (off := 51) (by rw [c49_3]; decide) (tgt := 100) (by decide) ?_
          refine dx_aload_n (pc := 100) hx dX9_whyNot_100 rfl ?_
          refine dx_iload_n (pc := 101) hx dX9_whyNot_101 rfl ?_
          refine dx_iload_n (pc := 102) hx dX9_whyNot_102 rfl ?_
          obtain ⟨r103, h103, h⟩ := Option.bind_eq_some_iff.mp h
          refine dx_callVir (pc := 103) (As := [.int x2, .int x3]) (rest := []) hx dX9_whyNot_103 k_X9_160 rfl rfl rfl rfl (dc_le rfl) (dc_le rfl) (dc_le rfl) (dc_le rfl) rfl (th_X9_whyNotTake h103) ?_
          obtain rfl := Option.some.inj h
          exact dx_iret hO (pc := 106) dX9_whyNot_106 rfl ⟨_, rfl, rfl, rfl⟩
        replace h := (if_neg c49_3).symm.trans h
        by_cases c49_4 : x1 = nI 4
        · replace h := (if_pos c49_4).symm.trans h
          refine dx_tableIn (pc := 49) hx dX9_whyNot_49 (by rw [c49_4]; decide) (by rw [c49_4]; decide) (off := 58) (by rw [c49_4]; decide) (tgt := 107) (by decide) ?_
          refine dx_aload_n (pc := 107) hx dX9_whyNot_107 rfl ?_
          refine dx_getR (r := 57) (pc := 108) hx dX9_whyNot_108 f_X9_13 rfl rfl ?_
          refine dx_iload_n (pc := 111) hx dX9_whyNot_111 rfl ?_
          by_cases g112 : x2 < 0 ∨ 8 ≤ x2.toNatClampNeg
          · cases (if_pos g112).symm.trans h
          replace h := (if_neg g112).symm.trans h
          refine dx_iald (pc := 112) hx dX9_whyNot_112 rfl g112 ?_
          refine dx_if_ne (pc := 113) hx dX9_whyNot_113 (tgt := 120) (by decide) (fun c113 => ?_) (fun c113 => ?_)
          · replace h := (if_neg c113).symm.trans h
            refine dx_iconst (pc := 120) hx dX9_whyNot_120 kc_0 ?_
            obtain rfl := Option.some.inj h
            exact dx_iret hO (pc := 121) dX9_whyNot_121 rfl ⟨_, rfl, rfl, rfl⟩
          · replace h := (if_pos c113).symm.trans h
            refine dx_iconst (pc := 116) hx dX9_whyNot_116 kc_2 ?_
            refine dx_goto (pc := 117) hx dX9_whyNot_117 (tgt := 121) (by decide) ?_
            obtain rfl := Option.some.inj h
            exact dx_iret hO (pc := 121) dX9_whyNot_121 rfl ⟨_, rfl, rfl, rfl⟩
        replace h := (if_neg c49_4).symm.trans h
        refine dx_tableOut (pc := 49) hx dX9_whyNot_49 (by have z1 := dc_swn (k := 1) (by decide) c49_1; have z2 := dc_swn (k := 2) (by decide) c49_2; have z3 := dc_swn (k := 3) (by decide) c49_3; have z4 := dc_swn (k := 4) (by decide) c49_4; omega) (tgt := 122) (by decide) ?_
        refine dx_iconst (pc := 122) hx dX9_whyNot_122 kc_0 ?_
        obtain rfl := Option.some.inj h
        exact dx_iret hO (pc := 123) dX9_whyNot_123 rfl ⟨_, rfl, rfl, rfl⟩
      · replace h := (if_pos c43).symm.trans h
        refine dx_iconst (pc := 46) hx dX9_whyNot_46 kc_1 ?_
        obtain rfl := Option.some.inj h
        exact dx_iret hO (pc := 47) dX9_whyNot_47 rfl ⟨_, rfl, rfl, rfl⟩
    · replace h := (if_pos c21).symm.trans h
      refine dx_aload_n (pc := 24) hx dX9_whyNot_24 rfl ?_
      refine dx_iload_n (pc := 25) hx dX9_whyNot_25 rfl ?_
      obtain ⟨r26, h26, h⟩ := Option.bind_eq_some_iff.mp h
      refine dx_callVir (pc := 26) (As := [.int x2]) (rest := []) hx dX9_whyNot_26 k_X9_157 rfl rfl rfl rfl (dc_le rfl) (dc_le rfl) (dc_le rfl) (dc_le rfl) rfl (th_X9_canBeSung h26) ?_
      refine dx_if_eq (pc := 29) hx dX9_whyNot_29 (tgt := 36) (by decide) (fun c29 => ?_) (fun c29 => ?_)
      · replace h := (if_pos c29).symm.trans h
        refine dx_iconst (pc := 36) hx dX9_whyNot_36 kc_4 ?_
        obtain rfl := Option.some.inj h
        exact dx_iret hO (pc := 37) dX9_whyNot_37 rfl ⟨_, rfl, rfl, rfl⟩
      · replace h := (if_neg c29).symm.trans h
        refine dx_iconst (pc := 32) hx dX9_whyNot_32 kc_0 ?_
        refine dx_goto (pc := 33) hx dX9_whyNot_33 (tgt := 37) (by decide) ?_
        obtain rfl := Option.some.inj h
        exact dx_iret hO (pc := 37) dX9_whyNot_37 rfl ⟨_, rfl, rfl, rfl⟩
  · replace h := (if_pos c2).symm.trans h
    refine dx_aload_n (pc := 5) hx dX9_whyNot_5 rfl ?_
    refine dx_getI (pc := 6) hx dX9_whyNot_6 f_X9_154 rfl rfl ?_
    refine dx_bipush (pc := 9) hx dX9_whyNot_9 kb_99 ?_
    refine dx_icmp_ne (pc := 11) hx dX9_whyNot_11 (tgt := 18) (by decide) (fun c11 => ?_) (fun c11 => ?_)
    · replace h := (if_neg c11).symm.trans h
      refine dx_iconst (pc := 18) hx dX9_whyNot_18 kc_0 ?_
      obtain rfl := Option.some.inj h
      exact dx_iret hO (pc := 19) dX9_whyNot_19 rfl ⟨_, rfl, rfl, rfl⟩
    · replace h := (if_pos c11).symm.trans h
      refine dx_iconst (pc := 14) hx dX9_whyNot_14 kc_5 ?_
      refine dx_goto (pc := 15) hx dX9_whyNot_15 (tgt := 19) (by decide) ?_
      obtain rfl := Option.some.inj h
      exact dx_iret hO (pc := 19) dX9_whyNot_19 rfl ⟨_, rfl, rfl, rfl⟩
set_option maxHeartbeats 4000000 in
set_option maxRecDepth 100000 in
theorem tl_X9_owing_L4 {κ : dc_KX} {Q : Option Value → dc_HP → Prop} (hO : dc_Ok κ mX9_owing Q) (σ : dc_HP) : ∀ (n : Nat) (x1 : Int32) (x2 : Int32) (q : Int32), fn_X9_owing_L4 σ n x1 x2 = some q → ∀ (hk : dc_X κ 43 [some (.ref 55), some (.int q), none] [] σ), dc_X κ 4 [some (.ref 55), some (.int x1), some (.int x2)] [] σ := by
  have hx : dc_Cx κ RX9 cX9_owing 3 2 46 := hO.1
  intro n
  induction n with
  | zero =>
    intro x1 x2 q h
    cases h
  | succ n ih =>
    intro x1 x2 q h hk
    unfold fn_X9_owing_L4 at h
    refine dx_iload_n (pc := 4) hx dX9_owing_4 rfl ?_
    refine dx_bipush (pc := 5) hx dX9_owing_5 kb_8 ?_
    refine dx_icmp_ge (pc := 7) hx dX9_owing_7 (tgt := 43) (by decide) (fun c7 => ?_) (fun c7 => ?_)
    · replace h := (if_pos c7).symm.trans h
      obtain rfl := Option.some.inj h
      exact dx_wk [true, true, false] <| hk
    · replace h := (if_neg c7).symm.trans h
      refine dx_iload_n (pc := 10) hx dX9_owing_10 rfl ?_
      refine dx_aload_n (pc := 11) hx dX9_owing_11 rfl ?_
      refine dx_iload_n (pc := 12) hx dX9_owing_12 rfl ?_
      obtain ⟨r13, h13, h⟩ := Option.bind_eq_some_iff.mp h
      refine dx_callVir (pc := 13) (As := [.int x2]) (rest := [.int x1]) hx dX9_owing_13 k_X9_99 rfl rfl rfl rfl (dc_le rfl) (dc_le rfl) (dc_le rfl) (dc_le rfl) rfl (th_X9_isSinger h13) ?_
      refine dx_if_eq (pc := 16) hx dX9_owing_16 (tgt := 34) (by decide) (fun c16 => ?_) (fun c16 => ?_)
      · replace h := (if_pos c16).symm.trans h
        refine dx_iconst (pc := 34) hx dX9_owing_34 kc_0 ?_
        refine dx_ior (pc := 35) hx dX9_owing_35 ?_
        refine dx_istore_n (pc := 36) hx dX9_owing_36 (dc_le rfl) (ls' := [some (.ref 55), some (.int (x1 ||| (nI 0))), some (.int x2)]) rfl ?_
        refine dx_iinc (pc := 37) hx dX9_owing_37 rfl (v := x2 + nI 1) (congrArg (fun z => x2 + z) kc_1) (dc_le rfl) (ls' := [some (.ref 55), some (.int (x1 ||| (nI 0))), some (.int (x2 + nI 1))]) rfl ?_
        refine dx_goto (pc := 40) hx dX9_owing_40 (tgt := 4) (by decide) ?_
        exact (ih (x1 ||| (nI 0)) (x2 + nI 1) q h hk)
      · replace h := (if_neg c16).symm.trans h
        refine dx_aload_n (pc := 19) hx dX9_owing_19 rfl ?_
        refine dx_getR (r := 57) (pc := 20) hx dX9_owing_20 f_X9_13 rfl rfl ?_
        refine dx_iload_n (pc := 23) hx dX9_owing_23 rfl ?_
        by_cases g24 : x2 < 0 ∨ 8 ≤ x2.toNatClampNeg
        · cases (if_pos g24).symm.trans h
        replace h := (if_neg g24).symm.trans h
        refine dx_iald (pc := 24) hx dX9_owing_24 rfl g24 ?_
        refine dx_if_le (pc := 25) hx dX9_owing_25 (tgt := 34) (by decide) (fun c25 => ?_) (fun c25 => ?_)
        · replace h := (if_pos c25).symm.trans h
          refine dx_iconst (pc := 34) hx dX9_owing_34 kc_0 ?_
          refine dx_ior (pc := 35) hx dX9_owing_35 ?_
          refine dx_istore_n (pc := 36) hx dX9_owing_36 (dc_le rfl) (ls' := [some (.ref 55), some (.int (x1 ||| (nI 0))), some (.int x2)]) rfl ?_
          refine dx_iinc (pc := 37) hx dX9_owing_37 rfl (v := x2 + nI 1) (congrArg (fun z => x2 + z) kc_1) (dc_le rfl) (ls' := [some (.ref 55), some (.int (x1 ||| (nI 0))), some (.int (x2 + nI 1))]) rfl ?_
          refine dx_goto (pc := 40) hx dX9_owing_40 (tgt := 4) (by decide) ?_
          exact (ih (x1 ||| (nI 0)) (x2 + nI 1) q h hk)
        · replace h := (if_neg c25).symm.trans h
          refine dx_iconst (pc := 28) hx dX9_owing_28 kc_1 ?_
          refine dx_iload_n (pc := 29) hx dX9_owing_29 rfl ?_
          refine dx_ishl (pc := 30) hx dX9_owing_30 ?_
          refine dx_goto (pc := 31) hx dX9_owing_31 (tgt := 35) (by decide) ?_
          refine dx_ior (pc := 35) hx dX9_owing_35 ?_
          refine dx_istore_n (pc := 36) hx dX9_owing_36 (dc_le rfl) (ls' := [some (.ref 55), some (.int (x1 ||| ((nI 1) <<< (x2 &&& 31)))), some (.int x2)]) rfl ?_
          refine dx_iinc (pc := 37) hx dX9_owing_37 rfl (v := x2 + nI 1) (congrArg (fun z => x2 + z) kc_1) (dc_le rfl) (ls' := [some (.ref 55), some (.int (x1 ||| ((nI 1) <<< (x2 &&& 31)))), some (.int (x2 + nI 1))]) rfl ?_
          refine dx_goto (pc := 40) hx dX9_owing_40 (tgt := 4) (by decide) ?_
          exact (ih (x1 ||| ((nI 1) <<< (x2 &&& 31))) (x2 + nI 1) q h hk)
set_option maxHeartbeats 4000000 in
set_option maxRecDepth 100000 in
theorem th_X9_owing {σ : dc_HP} {r : Int32} (h : fn_X9_owing σ = some r) : dc_G mX9_owing [.ref 55] σ (dc_qi (fun x τ => x = r ∧ τ = σ)) := by
  intro κ hO
  have hx : dc_Cx κ RX9 cX9_owing 3 2 46 := hO.1
  show dc_X κ 0 [some (.ref 55), none, none] [] σ
  unfold fn_X9_owing at h
  refine dx_iconst (pc := 0) hx dX9_owing_0 kc_0 ?_
  refine dx_istore_n (pc := 1) hx dX9_owing_1 (dc_le rfl) (ls' := [some (.ref 55), some (.int (nI 0)), none]) rfl ?_
  refine dx_iconst (pc := 2) hx dX9_owing_2 kc_0 ?_
  refine dx_istore_n (pc := 3) hx dX9_owing_3 (dc_le rfl) (ls' := [some (.ref 55), some (.int (nI 0)), some (.int (nI 0))]) rfl ?_
  obtain ⟨q4, h4, h⟩ := Option.bind_eq_some_iff.mp h
  refine (tl_X9_owing_L4 hO σ  200 (nI 0) (nI 0) q4 h4 ?_)
  refine dx_iload_n (pc := 43) hx dX9_owing_43 rfl ?_
  obtain rfl := Option.some.inj h
  exact dx_iret hO (pc := 44) dX9_owing_44 rfl ⟨_, rfl, rfl, rfl⟩
set_option maxHeartbeats 4000000 in
set_option maxRecDepth 100000 in
theorem tl_X9_singOne_L6 {κ : dc_KX} {Q : Option Value → dc_HP → Prop} (hO : dc_Ok κ mX9_singOne Q) (σ : dc_HP) (x1 : Int32) (x2 : Int32) : ∀ (n : Nat) (x3 : Int32) (x4 : Int32) (q : Int32), fn_X9_singOne_L6 σ x1 x2 n x3 x4 = some q → ∀ (hk : dc_X κ 78 [some (.ref 55), some (.int x1), some (.int x2), some (.int q), none, none] [] σ), dc_X κ 6 [some (.ref 55), some (.int x1), some (.int x2), some (.int x3), some (.int x4), none] [] σ := by
  have hx : dc_Cx κ RX9 cX9_singOne 6 3 68 := hO.1
  intro n
  induction n with
  | zero =>
    intro x3 x4 q h
    cases h
  | succ n ih =>
    intro x3 x4 q h hk
    unfold fn_X9_singOne_L6 at h
    refine dx_iload (pc := 6) hx dX9_singOne_6 rfl ?_
    refine dx_bipush (pc := 8) hx dX9_singOne_8 kb_8 ?_
    refine dx_icmp_ge (pc := 10) hx dX9_singOne_10 (tgt := 78) (by decide) (fun c10 => ?_) (fun c10 => ?_)
    · replace h := (if_pos c10).symm.trans h
      obtain rfl := Option.some.inj h
      exact dx_wk [true, true, true, true, false, true] <| hk
    · replace h := (if_neg c10).symm.trans h
      refine dx_aload_n (pc := 13) hx dX9_singOne_13 rfl ?_
      refine dx_iload (pc := 14) hx dX9_singOne_14 rfl ?_
      refine dx_iload_n (pc := 16) hx dX9_singOne_16 rfl ?_
      obtain ⟨r17, h17, h⟩ := Option.bind_eq_some_iff.mp h
      refine dx_callVir (pc := 17) (As := [.int x4, .int x1]) (rest := []) hx dX9_singOne_17 k_X9_146 rfl rfl rfl rfl (dc_le rfl) (dc_le rfl) (dc_le rfl) (dc_le rfl) rfl (th_X9_mayHere h17) ?_
      obtain ⟨q20, hr, h⟩ := Option.bind_eq_some_iff.mp h
      have hk : dc_X κ 38 [some (.ref 55), some (.int x1), some (.int x2), some (.int x3), some (.int x4), none] [.int q20] σ := by
        clear hr
        refine dx_istore (pc := 38) hx dX9_singOne_38 (dc_le rfl) (ls' := [some (.ref 55), some (.int x1), some (.int x2), some (.int x3), some (.int x4), some (.int q20)]) rfl ?_
        refine dx_iload (pc := 40) hx dX9_singOne_40 rfl ?_
        refine dx_if_eq (pc := 42) hx dX9_singOne_42 (tgt := 70) (by decide) (fun c42 => ?_) (fun c42 => ?_)
        · replace h := (if_pos c42).symm.trans h
          refine dx_iload_n (pc := 70) hx dX9_singOne_70 rfl ?_
          refine dx_istore_n (pc := 71) hx dX9_singOne_71 (dc_le rfl) (ls' := [some (.ref 55), some (.int x1), some (.int x2), some (.int x3), some (.int x4), some (.int q20)]) rfl ?_
          refine dx_iinc (pc := 72) hx dX9_singOne_72 rfl (v := x4 + nI 1) (congrArg (fun z => x4 + z) kc_1) (dc_le rfl) (ls' := [some (.ref 55), some (.int x1), some (.int x2), some (.int x3), some (.int (x4 + nI 1)), some (.int q20)]) rfl ?_
          refine dx_goto (pc := 75) hx dX9_singOne_75 (tgt := 6) (by decide) ?_
          exact dx_wk [true, true, true, true, true, false] <| (ih x3 (x4 + nI 1) q h hk)
        · replace h := (if_neg c42).symm.trans h
          refine dx_iload_n (pc := 45) hx dX9_singOne_45 rfl ?_
          refine dx_if_lt (pc := 46) hx dX9_singOne_46 (tgt := 65) (by decide) (fun c46 => ?_) (fun c46 => ?_)
          · replace h := (if_pos c46).symm.trans h
            refine dx_iload (pc := 65) hx dX9_singOne_65 rfl ?_
            refine dx_goto (pc := 67) hx dX9_singOne_67 (tgt := 71) (by decide) ?_
            refine dx_istore_n (pc := 71) hx dX9_singOne_71 (dc_le rfl) (ls' := [some (.ref 55), some (.int x1), some (.int x2), some (.int x4), some (.int x4), some (.int q20)]) rfl ?_
            refine dx_iinc (pc := 72) hx dX9_singOne_72 rfl (v := x4 + nI 1) (congrArg (fun z => x4 + z) kc_1) (dc_le rfl) (ls' := [some (.ref 55), some (.int x1), some (.int x2), some (.int x4), some (.int (x4 + nI 1)), some (.int q20)]) rfl ?_
            refine dx_goto (pc := 75) hx dX9_singOne_75 (tgt := 6) (by decide) ?_
            exact dx_wk [true, true, true, true, true, false] <| (ih x4 (x4 + nI 1) q h hk)
          · replace h := (if_neg c46).symm.trans h
            refine dx_aload_n (pc := 49) hx dX9_singOne_49 rfl ?_
            refine dx_getR (r := 57) (pc := 50) hx dX9_singOne_50 f_X9_13 rfl rfl ?_
            refine dx_iload (pc := 53) hx dX9_singOne_53 rfl ?_
            by_cases g55 : x4 < 0 ∨ 8 ≤ x4.toNatClampNeg
            · cases (if_pos g55).symm.trans h
            replace h := (if_neg g55).symm.trans h
            refine dx_iald (pc := 55) hx dX9_singOne_55 rfl g55 ?_
            refine dx_aload_n (pc := 56) hx dX9_singOne_56 rfl ?_
            refine dx_getR (r := 57) (pc := 57) hx dX9_singOne_57 f_X9_13 rfl rfl ?_
            refine dx_iload_n (pc := 60) hx dX9_singOne_60 rfl ?_
            by_cases g61 : x3 < 0 ∨ 8 ≤ x3.toNatClampNeg
            · cases (if_pos g61).symm.trans h
            replace h := (if_neg g61).symm.trans h
            refine dx_iald (pc := 61) hx dX9_singOne_61 rfl g61 ?_
            refine dx_icmp_le (pc := 62) hx dX9_singOne_62 (tgt := 70) (by decide) (fun c62 => ?_) (fun c62 => ?_)
            · replace h := (if_pos c62).symm.trans h
              refine dx_iload_n (pc := 70) hx dX9_singOne_70 rfl ?_
              refine dx_istore_n (pc := 71) hx dX9_singOne_71 (dc_le rfl) (ls' := [some (.ref 55), some (.int x1), some (.int x2), some (.int x3), some (.int x4), some (.int q20)]) rfl ?_
              refine dx_iinc (pc := 72) hx dX9_singOne_72 rfl (v := x4 + nI 1) (congrArg (fun z => x4 + z) kc_1) (dc_le rfl) (ls' := [some (.ref 55), some (.int x1), some (.int x2), some (.int x3), some (.int (x4 + nI 1)), some (.int q20)]) rfl ?_
              refine dx_goto (pc := 75) hx dX9_singOne_75 (tgt := 6) (by decide) ?_
              exact dx_wk [true, true, true, true, true, false] <| (ih x3 (x4 + nI 1) q h hk)
            · replace h := (if_neg c62).symm.trans h
              refine dx_iload (pc := 65) hx dX9_singOne_65 rfl ?_
              refine dx_goto (pc := 67) hx dX9_singOne_67 (tgt := 71) (by decide) ?_
              refine dx_istore_n (pc := 71) hx dX9_singOne_71 (dc_le rfl) (ls' := [some (.ref 55), some (.int x1), some (.int x2), some (.int x4), some (.int x4), some (.int q20)]) rfl ?_
              refine dx_iinc (pc := 72) hx dX9_singOne_72 rfl (v := x4 + nI 1) (congrArg (fun z => x4 + z) kc_1) (dc_le rfl) (ls' := [some (.ref 55), some (.int x1), some (.int x2), some (.int x4), some (.int (x4 + nI 1)), some (.int q20)]) rfl ?_
              refine dx_goto (pc := 75) hx dX9_singOne_75 (tgt := 6) (by decide) ?_
              exact dx_wk [true, true, true, true, true, false] <| (ih x4 (x4 + nI 1) q h hk)
      replace h := hr
      clear hr
      refine dx_if_eq (pc := 20) hx dX9_singOne_20 (tgt := 37) (by decide) (fun c20 => ?_) (fun c20 => ?_)
      · replace h := (if_pos c20).symm.trans h
        refine dx_iconst (pc := 37) hx dX9_singOne_37 kc_0 ?_
        obtain rfl := Option.some.inj h
        exact hk
      · replace h := (if_neg c20).symm.trans h
        refine dx_aload_n (pc := 23) hx dX9_singOne_23 rfl ?_
        refine dx_getR (r := 57) (pc := 24) hx dX9_singOne_24 f_X9_13 rfl rfl ?_
        refine dx_iload (pc := 27) hx dX9_singOne_27 rfl ?_
        by_cases g29 : x4 < 0 ∨ 8 ≤ x4.toNatClampNeg
        · cases (if_pos g29).symm.trans h
        replace h := (if_neg g29).symm.trans h
        refine dx_iald (pc := 29) hx dX9_singOne_29 rfl g29 ?_
        refine dx_if_le (pc := 30) hx dX9_singOne_30 (tgt := 37) (by decide) (fun c30 => ?_) (fun c30 => ?_)
        · replace h := (if_pos c30).symm.trans h
          refine dx_iconst (pc := 37) hx dX9_singOne_37 kc_0 ?_
          obtain rfl := Option.some.inj h
          exact hk
        · replace h := (if_neg c30).symm.trans h
          refine dx_iconst (pc := 33) hx dX9_singOne_33 kc_1 ?_
          refine dx_goto (pc := 34) hx dX9_singOne_34 (tgt := 38) (by decide) ?_
          obtain rfl := Option.some.inj h
          exact hk
set_option maxHeartbeats 4000000 in
set_option maxRecDepth 100000 in
theorem th_X9_singOne {σ : dc_HP} {x1 : Int32} {x2 : Int32} {r : dc_HP} (h : fn_X9_singOne σ x1 x2 = some r) : dc_G mX9_singOne [.ref 55, .int x1, .int x2] σ (dc_qv (fun τ => τ = r)) := by
  intro κ hO
  have hx : dc_Cx κ RX9 cX9_singOne 6 3 68 := hO.1
  show dc_X κ 0 [some (.ref 55), some (.int x1), some (.int x2), none, none, none] [] σ
  unfold fn_X9_singOne at h
  refine dx_bipush (pc := 0) hx dX9_singOne_0 kb_m6 ?_
  refine dx_istore_n (pc := 2) hx dX9_singOne_2 (dc_le rfl) (ls' := [some (.ref 55), some (.int x1), some (.int x2), some (.int ((-6 : Int32))), none, none]) rfl ?_
  refine dx_iconst (pc := 3) hx dX9_singOne_3 kc_0 ?_
  refine dx_istore (pc := 4) hx dX9_singOne_4 (dc_le rfl) (ls' := [some (.ref 55), some (.int x1), some (.int x2), some (.int ((-6 : Int32))), some (.int (nI 0)), none]) rfl ?_
  obtain ⟨q6, h6, h⟩ := Option.bind_eq_some_iff.mp h
  refine (tl_X9_singOne_L6 hO σ x1 x2 200 ((-6 : Int32)) (nI 0) q6 h6 ?_)
  refine dx_aload_n (pc := 78) hx dX9_singOne_78 rfl ?_
  refine dx_getR (r := 57) (pc := 79) hx dX9_singOne_79 f_X9_13 rfl rfl ?_
  refine dx_iload_n (pc := 82) hx dX9_singOne_82 rfl ?_
  by_cases g83 : q6 < 0 ∨ 8 ≤ q6.toNatClampNeg
  · cases (if_pos g83).symm.trans h
  replace h := (if_neg g83).symm.trans h
  refine dx_iald (pc := 83) hx dX9_singOne_83 rfl g83 ?_
  refine dx_iload_n (pc := 84) hx dX9_singOne_84 rfl ?_
  obtain ⟨q85, hr, h⟩ := Option.bind_eq_some_iff.mp h
  have hk : dc_X κ 98 [some (.ref 55), some (.int x1), some (.int x2), some (.int q6), none, none] [.int q85] σ := by
    clear hr
    refine dx_istore (pc := 98) hx dX9_singOne_98 (dc_le rfl) (ls' := [some (.ref 55), some (.int x1), some (.int x2), some (.int q6), some (.int q85), none]) rfl ?_
    refine dx_aload_n (pc := 100) hx dX9_singOne_100 rfl ?_
    refine dx_getR (r := 57) (pc := 101) hx dX9_singOne_101 f_X9_13 rfl rfl ?_
    refine dx_iload_n (pc := 104) hx dX9_singOne_104 rfl ?_
    refine dx_dup2 (pc := 105) hx dX9_singOne_105 rfl rfl ?_
    by_cases g106 : q6 < 0 ∨ 8 ≤ q6.toNatClampNeg
    · cases (if_pos g106).symm.trans h
    replace h := (if_neg g106).symm.trans h
    refine dx_iald (pc := 106) hx dX9_singOne_106 rfl g106 ?_
    refine dx_iload (pc := 107) hx dX9_singOne_107 rfl ?_
    refine dx_isub (pc := 109) hx dX9_singOne_109 ?_
    by_cases g110 : q6 < 0 ∨ 8 ≤ q6.toNatClampNeg
    · cases (if_pos g110).symm.trans h
    replace h := (if_neg g110).symm.trans h
    refine dx_iast (pc := 110) hx dX9_singOne_110 rfl g110 ?_
    refine dx_nm (fun s110 e110 => ?_)
    replace h := dc_lt e110 h
    refine dx_aload_n (pc := 111) hx dX9_singOne_111 rfl ?_
    refine dx_dup (pc := 112) hx dX9_singOne_112 rfl ?_
    refine dx_getI (pc := 113) hx dX9_singOne_113 f_X9_163 rfl rfl ?_
    refine dx_iload (pc := 116) hx dX9_singOne_116 rfl ?_
    refine dx_iadd (pc := 118) hx dX9_singOne_118 ?_
    refine dx_putI (pc := 119) hx dX9_singOne_119 f_X9_163 rfl rfl tyX9_ok rfl (Or.inl ⟨rfl, rfl⟩) ?_
    refine dx_nm (fun s119 e119 => ?_)
    replace h := dc_lt e119 h
    refine dx_aload_n (pc := 122) hx dX9_singOne_122 rfl ?_
    refine dx_dup (pc := 123) hx dX9_singOne_123 rfl ?_
    refine dx_getI (pc := 124) hx dX9_singOne_124 f_X9_92 rfl rfl ?_
    refine dx_iconst (pc := 127) hx dX9_singOne_127 kc_1 ?_
    refine dx_iload_n (pc := 128) hx dX9_singOne_128 rfl ?_
    refine dx_ishl (pc := 129) hx dX9_singOne_129 ?_
    refine dx_ior (pc := 130) hx dX9_singOne_130 ?_
    refine dx_putI (pc := 131) hx dX9_singOne_131 f_X9_92 rfl rfl tyX9_ok rfl (Or.inl ⟨rfl, rfl⟩) ?_
    obtain rfl := Option.some.inj h
    exact dx_vret hO (pc := 134) dX9_singOne_134 rfl ⟨rfl, rfl⟩
  replace h := hr
  clear hr
  refine dx_icmp_ge (pc := 85) hx dX9_singOne_85 (tgt := 97) (by decide) (fun c85 => ?_) (fun c85 => ?_)
  · replace h := (if_pos c85).symm.trans h
    refine dx_iload_n (pc := 97) hx dX9_singOne_97 rfl ?_
    obtain rfl := Option.some.inj h
    exact hk
  · replace h := (if_neg c85).symm.trans h
    refine dx_aload_n (pc := 88) hx dX9_singOne_88 rfl ?_
    refine dx_getR (r := 57) (pc := 89) hx dX9_singOne_89 f_X9_13 rfl rfl ?_
    refine dx_iload_n (pc := 92) hx dX9_singOne_92 rfl ?_
    by_cases g93 : q6 < 0 ∨ 8 ≤ q6.toNatClampNeg
    · cases (if_pos g93).symm.trans h
    replace h := (if_neg g93).symm.trans h
    refine dx_iald (pc := 93) hx dX9_singOne_93 rfl g93 ?_
    refine dx_goto (pc := 94) hx dX9_singOne_94 (tgt := 98) (by decide) ?_
    obtain rfl := Option.some.inj h
    exact hk
set_option maxHeartbeats 4000000 in
set_option maxRecDepth 100000 in
theorem tl_X9_singPiece_L19 {κ : dc_KX} {Q : Option Value → dc_HP → Prop} (hO : dc_Ok κ mX9_singPiece Q) (x1 : Int32) (x2 : Int32) : ∀ (n : Nat) (x3 : Int32) (σ : dc_HP) (q : dc_HP), fn_X9_singPiece_L19 x1 x2 n x3 σ = some q → ∀ (hk : dc_X κ 57 [some (.ref 55), some (.int x1), some (.int x2), none] [] q), dc_X κ 19 [some (.ref 55), some (.int x1), some (.int x2), some (.int x3)] [] σ := by
  have hx : dc_Cx κ RX9 cX9_singPiece 4 4 93 := hO.1
  intro n
  induction n with
  | zero =>
    intro x3 σ q h
    cases h
  | succ n ih =>
    intro x3 σ q h hk
    unfold fn_X9_singPiece_L19 at h
    refine dx_iload_n (pc := 19) hx dX9_singPiece_19 rfl ?_
    refine dx_aload_n (pc := 20) hx dX9_singPiece_20 rfl ?_
    refine dx_getR (r := 58) (pc := 21) hx dX9_singPiece_21 f_X9_16 rfl rfl ?_
    refine dx_iconst (pc := 24) hx dX9_singPiece_24 kc_4 ?_
    refine dx_iload_n (pc := 25) hx dX9_singPiece_25 rfl ?_
    refine dx_imul (pc := 26) hx dX9_singPiece_26 ?_
    refine dx_iload_n (pc := 27) hx dX9_singPiece_27 rfl ?_
    refine dx_iadd (pc := 28) hx dX9_singPiece_28 ?_
    by_cases g29 : (((nI 4) * x1) + x2) < 0 ∨ 24 ≤ (((nI 4) * x1) + x2).toNatClampNeg
    · cases (if_pos g29).symm.trans h
    replace h := (if_neg g29).symm.trans h
    refine dx_iald (pc := 29) hx dX9_singPiece_29 rfl g29 ?_
    refine dx_icmp_ge (pc := 30) hx dX9_singPiece_30 (tgt := 57) (by decide) (fun c30 => ?_) (fun c30 => ?_)
    · replace h := (if_pos c30).symm.trans h
      obtain rfl := Option.some.inj h
      exact dx_wk [true, true, true, false] <| hk
    · replace h := (if_neg c30).symm.trans h
      refine dx_aload_n (pc := 33) hx dX9_singPiece_33 rfl ?_
      refine dx_iload_n (pc := 34) hx dX9_singPiece_34 rfl ?_
      refine dx_aload_n (pc := 35) hx dX9_singPiece_35 rfl ?_
      refine dx_getR (r := 59) (pc := 36) hx dX9_singPiece_36 f_X9_19 rfl rfl ?_
      refine dx_iload_n (pc := 39) hx dX9_singPiece_39 rfl ?_
      by_cases g40 : x1 < 0 ∨ 6 ≤ x1.toNatClampNeg
      · cases (if_pos g40).symm.trans h
      replace h := (if_neg g40).symm.trans h
      refine dx_iald (pc := 40) hx dX9_singPiece_40 rfl g40 ?_
      refine dx_aload_n (pc := 41) hx dX9_singPiece_41 rfl ?_
      refine dx_getR (r := 60) (pc := 42) hx dX9_singPiece_42 f_X9_22 rfl rfl ?_
      refine dx_iload_n (pc := 45) hx dX9_singPiece_45 rfl ?_
      by_cases g46 : x1 < 0 ∨ 6 ≤ x1.toNatClampNeg
      · cases (if_pos g46).symm.trans h
      replace h := (if_neg g46).symm.trans h
      refine dx_iald (pc := 46) hx dX9_singPiece_46 rfl g46 ?_
      refine dx_imul (pc := 47) hx dX9_singPiece_47 ?_
      obtain ⟨r48, h48, h⟩ := Option.bind_eq_some_iff.mp h
      refine dx_callVvw (pc := 48) (As := [.int x2, .int ((σ.1 59 x1.toNatClampNeg) * (σ.1 60 x1.toNatClampNeg))]) (rest := []) hx dX9_singPiece_48 k_X9_169 rfl rfl rfl rfl (dc_le rfl) (dc_le rfl) (dc_le rfl) (dc_le rfl) rfl (th_X9_singOne h48) ?_
      refine dx_iinc (pc := 51) hx dX9_singPiece_51 rfl (v := x3 + nI 1) (congrArg (fun z => x3 + z) kc_1) (dc_le rfl) (ls' := [some (.ref 55), some (.int x1), some (.int x2), some (.int (x3 + nI 1))]) rfl ?_
      refine dx_goto (pc := 54) hx dX9_singPiece_54 (tgt := 19) (by decide) ?_
      exact (ih (x3 + nI 1) r48 q h hk)
set_option maxHeartbeats 4000000 in
set_option maxRecDepth 100000 in
theorem tl_X9_singPiece_L12 {κ : dc_KX} {Q : Option Value → dc_HP → Prop} (hO : dc_Ok κ mX9_singPiece Q) (x1 : Int32) : ∀ (n : Nat) (x2 : Int32) (σ : dc_HP) (q : dc_HP), fn_X9_singPiece_L12 x1 n x2 σ = some q → ∀ (hk : dc_X κ 63 [some (.ref 55), some (.int x1), none, none] [] q), dc_X κ 12 [some (.ref 55), some (.int x1), some (.int x2), none] [] σ := by
  have hx : dc_Cx κ RX9 cX9_singPiece 4 4 93 := hO.1
  intro n
  induction n with
  | zero =>
    intro x2 σ q h
    cases h
  | succ n ih =>
    intro x2 σ q h hk
    unfold fn_X9_singPiece_L12 at h
    refine dx_iload_n (pc := 12) hx dX9_singPiece_12 rfl ?_
    refine dx_iconst (pc := 13) hx dX9_singPiece_13 kc_4 ?_
    refine dx_icmp_ge (pc := 14) hx dX9_singPiece_14 (tgt := 63) (by decide) (fun c14 => ?_) (fun c14 => ?_)
    · replace h := (if_pos c14).symm.trans h
      obtain rfl := Option.some.inj h
      exact dx_wk [true, true, false, true] <| hk
    · replace h := (if_neg c14).symm.trans h
      refine dx_iconst (pc := 17) hx dX9_singPiece_17 kc_0 ?_
      refine dx_istore_n (pc := 18) hx dX9_singPiece_18 (dc_le rfl) (ls' := [some (.ref 55), some (.int x1), some (.int x2), some (.int (nI 0))]) rfl ?_
      obtain ⟨q19, h19, h⟩ := Option.bind_eq_some_iff.mp h
      refine (tl_X9_singPiece_L19 hO x1 x2 200 (nI 0) σ q19 h19 ?_)
      refine dx_iinc (pc := 57) hx dX9_singPiece_57 rfl (v := x2 + nI 1) (congrArg (fun z => x2 + z) kc_1) (dc_le rfl) (ls' := [some (.ref 55), some (.int x1), some (.int (x2 + nI 1)), none]) rfl ?_
      refine dx_goto (pc := 60) hx dX9_singPiece_60 (tgt := 12) (by decide) ?_
      exact (ih (x2 + nI 1) q19 q h hk)
set_option maxHeartbeats 4000000 in
set_option maxRecDepth 100000 in
theorem th_X9_singPiece {σ : dc_HP} {x1 : Int32} {r : dc_HP} (h : fn_X9_singPiece σ x1 = some r) : dc_G mX9_singPiece [.ref 55, .int x1] σ (dc_qv (fun τ => τ = r)) := by
  intro κ hO
  have hx : dc_Cx κ RX9 cX9_singPiece 4 4 93 := hO.1
  show dc_X κ 0 [some (.ref 55), some (.int x1), none, none] [] σ
  unfold fn_X9_singPiece at h
  refine dx_aload_n (pc := 0) hx dX9_singPiece_0 rfl ?_
  refine dx_dup (pc := 1) hx dX9_singPiece_1 rfl ?_
  refine dx_getI (pc := 2) hx dX9_singPiece_2 f_X9_166 rfl rfl ?_
  refine dx_iconst (pc := 5) hx dX9_singPiece_5 kc_1 ?_
  refine dx_iadd (pc := 6) hx dX9_singPiece_6 ?_
  refine dx_putI (pc := 7) hx dX9_singPiece_7 f_X9_166 rfl rfl tyX9_ok rfl (Or.inl ⟨rfl, rfl⟩) ?_
  refine dx_nm (fun s7 e7 => ?_)
  replace h := dc_lt e7 h
  refine dx_iconst (pc := 10) hx dX9_singPiece_10 kc_0 ?_
  refine dx_istore_n (pc := 11) hx dX9_singPiece_11 (dc_le rfl) (ls' := [some (.ref 55), some (.int x1), some (.int (nI 0)), none]) rfl ?_
  obtain ⟨q12, h12, h⟩ := Option.bind_eq_some_iff.mp h
  refine (tl_X9_singPiece_L12 hO x1 200 (nI 0) s7 q12 h12 ?_)
  obtain rfl := Option.some.inj h
  exact dx_vret hO (pc := 63) dX9_singPiece_63 rfl ⟨rfl, rfl⟩
set_option maxHeartbeats 4000000 in
set_option maxRecDepth 100000 in
theorem tl_X9_endEvening_L2 {κ : dc_KX} {Q : Option Value → dc_HP → Prop} (hO : dc_Ok κ mX9_endEvening Q) : ∀ (n : Nat) (x1 : Int32) (σ : dc_HP) (q : dc_HP), fn_X9_endEvening_L2 n x1 σ = some q → ∀ (hk : dc_X κ 101 [some (.ref 55), none, none, none] [] q), dc_X κ 2 [some (.ref 55), some (.int x1), none, none] [] σ := by
  have hx : dc_Cx κ RX9 cX9_endEvening 4 2 46 := hO.1
  intro n
  induction n with
  | zero =>
    intro x1 σ q h
    cases h
  | succ n ih =>
    intro x1 σ q h hk
    unfold fn_X9_endEvening_L2 at h
    refine dx_iload_n (pc := 2) hx dX9_endEvening_2 rfl ?_
    refine dx_bipush (pc := 3) hx dX9_endEvening_3 kb_8 ?_
    refine dx_icmp_ge (pc := 5) hx dX9_endEvening_5 (tgt := 101) (by decide) (fun c5 => ?_) (fun c5 => ?_)
    · replace h := (if_pos c5).symm.trans h
      obtain rfl := Option.some.inj h
      exact dx_wk [true, false, true, true] <| hk
    · replace h := (if_neg c5).symm.trans h
      refine dx_aload_n (pc := 8) hx dX9_endEvening_8 rfl ?_
      refine dx_iload_n (pc := 9) hx dX9_endEvening_9 rfl ?_
      obtain ⟨r10, h10, h⟩ := Option.bind_eq_some_iff.mp h
      refine dx_callVir (pc := 10) (As := [.int x1]) (rest := []) hx dX9_endEvening_10 k_X9_99 rfl rfl rfl rfl (dc_le rfl) (dc_le rfl) (dc_le rfl) (dc_le rfl) rfl (th_X9_isSinger h10) ?_
      obtain ⟨q13, hr, h⟩ := Option.bind_eq_some_iff.mp h
      have hk : dc_X κ 44 [some (.ref 55), some (.int x1), none, none] [.int q13] σ := by
        clear hr
        refine dx_istore_n (pc := 44) hx dX9_endEvening_44 (dc_le rfl) (ls' := [some (.ref 55), some (.int x1), some (.int q13), none]) rfl ?_
        refine dx_iload_n (pc := 45) hx dX9_endEvening_45 rfl ?_
        obtain ⟨q46, hr, h⟩ := Option.bind_eq_some_iff.mp h
        have hk : dc_X κ 74 [some (.ref 55), some (.int x1), some (.int q13), none] [.int q46] σ := by
          clear hr
          refine dx_istore_n (pc := 74) hx dX9_endEvening_74 (dc_le rfl) (ls' := [some (.ref 55), some (.int x1), some (.int q13), some (.int q46)]) rfl ?_
          refine dx_aload_n (pc := 75) hx dX9_endEvening_75 rfl ?_
          refine dx_getR (r := 57) (pc := 76) hx dX9_endEvening_76 f_X9_13 rfl rfl ?_
          refine dx_iload_n (pc := 79) hx dX9_endEvening_79 rfl ?_
          refine dx_iload_n (pc := 80) hx dX9_endEvening_80 rfl ?_
          refine dx_sipush (pc := 81) hx dX9_endEvening_81 ks_999 ?_
          refine dx_icmp_le (pc := 84) hx dX9_endEvening_84 (tgt := 93) (by decide) (fun c84 => ?_) (fun c84 => ?_)
          · replace h := (if_pos c84).symm.trans h
            refine dx_iload_n (pc := 93) hx dX9_endEvening_93 rfl ?_
            by_cases g94 : x1 < 0 ∨ 8 ≤ x1.toNatClampNeg
            · cases (if_pos g94).symm.trans h
            replace h := (if_neg g94).symm.trans h
            refine dx_iast (pc := 94) hx dX9_endEvening_94 rfl g94 ?_
            refine dx_nm (fun s94 e94 => ?_)
            replace h := dc_lt e94 h
            refine dx_iinc (pc := 95) hx dX9_endEvening_95 rfl (v := x1 + nI 1) (congrArg (fun z => x1 + z) kc_1) (dc_le rfl) (ls' := [some (.ref 55), some (.int (x1 + nI 1)), some (.int q13), some (.int q46)]) rfl ?_
            refine dx_goto (pc := 98) hx dX9_endEvening_98 (tgt := 2) (by decide) ?_
            exact dx_wk [true, true, false, false] <| (ih (x1 + nI 1) s94 q h hk)
          · replace h := (if_neg c84).symm.trans h
            refine dx_sipush (pc := 87) hx dX9_endEvening_87 ks_999 ?_
            refine dx_goto (pc := 90) hx dX9_endEvening_90 (tgt := 94) (by decide) ?_
            by_cases g94 : x1 < 0 ∨ 8 ≤ x1.toNatClampNeg
            · cases (if_pos g94).symm.trans h
            replace h := (if_neg g94).symm.trans h
            refine dx_iast (pc := 94) hx dX9_endEvening_94 rfl g94 ?_
            refine dx_nm (fun s94 e94 => ?_)
            replace h := dc_lt e94 h
            refine dx_iinc (pc := 95) hx dX9_endEvening_95 rfl (v := x1 + nI 1) (congrArg (fun z => x1 + z) kc_1) (dc_le rfl) (ls' := [some (.ref 55), some (.int (x1 + nI 1)), some (.int q13), some (.int q46)]) rfl ?_
            refine dx_goto (pc := 98) hx dX9_endEvening_98 (tgt := 2) (by decide) ?_
            exact dx_wk [true, true, false, false] <| (ih (x1 + nI 1) s94 q h hk)
        replace h := hr
        clear hr
        refine dx_if_eq (pc := 46) hx dX9_endEvening_46 (tgt := 68) (by decide) (fun c46 => ?_) (fun c46 => ?_)
        · replace h := (if_pos c46).symm.trans h
          refine dx_aload_n (pc := 68) hx dX9_endEvening_68 rfl ?_
          refine dx_getR (r := 57) (pc := 69) hx dX9_endEvening_69 f_X9_13 rfl rfl ?_
          refine dx_iload_n (pc := 72) hx dX9_endEvening_72 rfl ?_
          by_cases g73 : x1 < 0 ∨ 8 ≤ x1.toNatClampNeg
          · cases (if_pos g73).symm.trans h
          replace h := (if_neg g73).symm.trans h
          refine dx_iald (pc := 73) hx dX9_endEvening_73 rfl g73 ?_
          obtain rfl := Option.some.inj h
          exact hk
        · replace h := (if_neg c46).symm.trans h
          refine dx_aload_n (pc := 49) hx dX9_endEvening_49 rfl ?_
          refine dx_getR (r := 57) (pc := 50) hx dX9_endEvening_50 f_X9_13 rfl rfl ?_
          refine dx_iload_n (pc := 53) hx dX9_endEvening_53 rfl ?_
          by_cases g54 : x1 < 0 ∨ 8 ≤ x1.toNatClampNeg
          · cases (if_pos g54).symm.trans h
          replace h := (if_neg g54).symm.trans h
          refine dx_iald (pc := 54) hx dX9_endEvening_54 rfl g54 ?_
          refine dx_aload_n (pc := 55) hx dX9_endEvening_55 rfl ?_
          refine dx_getR (r := 57) (pc := 56) hx dX9_endEvening_56 f_X9_13 rfl rfl ?_
          refine dx_iload_n (pc := 59) hx dX9_endEvening_59 rfl ?_
          by_cases g60 : x1 < 0 ∨ 8 ≤ x1.toNatClampNeg
          · cases (if_pos g60).symm.trans h
          replace h := (if_neg g60).symm.trans h
          refine dx_iald (pc := 60) hx dX9_endEvening_60 rfl g60 ?_
          refine dx_bipush (pc := 61) hx dX9_endEvening_61 kb_10 ?_
          refine dx_idiv (pc := 63) hx dX9_endEvening_63 (by decide) ?_
          refine dx_iadd (pc := 64) hx dX9_endEvening_64 ?_
          refine dx_goto (pc := 65) hx dX9_endEvening_65 (tgt := 74) (by decide) ?_
          obtain rfl := Option.some.inj h
          exact hk
      replace h := hr
      clear hr
      refine dx_if_eq (pc := 13) hx dX9_endEvening_13 (tgt := 43) (by decide) (fun c13 => ?_) (fun c13 => ?_)
      · replace h := (if_pos c13).symm.trans h
        refine dx_iconst (pc := 43) hx dX9_endEvening_43 kc_0 ?_
        obtain rfl := Option.some.inj h
        exact hk
      · replace h := (if_neg c13).symm.trans h
        refine dx_aload_n (pc := 16) hx dX9_endEvening_16 rfl ?_
        refine dx_getI (pc := 17) hx dX9_endEvening_17 f_X9_89 rfl rfl ?_
        refine dx_iload_n (pc := 20) hx dX9_endEvening_20 rfl ?_
        refine dx_ishr (pc := 21) hx dX9_endEvening_21 ?_
        refine dx_iconst (pc := 22) hx dX9_endEvening_22 kc_1 ?_
        refine dx_iand (pc := 23) hx dX9_endEvening_23 ?_
        refine dx_iconst (pc := 24) hx dX9_endEvening_24 kc_1 ?_
        refine dx_icmp_eq (pc := 25) hx dX9_endEvening_25 (tgt := 39) (by decide) (fun c25 => ?_) (fun c25 => ?_)
        · replace h := (if_pos c25).symm.trans h
          refine dx_iconst (pc := 39) hx dX9_endEvening_39 kc_1 ?_
          refine dx_goto (pc := 40) hx dX9_endEvening_40 (tgt := 44) (by decide) ?_
          obtain rfl := Option.some.inj h
          exact hk
        · replace h := (if_neg c25).symm.trans h
          refine dx_aload_n (pc := 28) hx dX9_endEvening_28 rfl ?_
          refine dx_getI (pc := 29) hx dX9_endEvening_29 f_X9_92 rfl rfl ?_
          refine dx_iload_n (pc := 32) hx dX9_endEvening_32 rfl ?_
          refine dx_ishr (pc := 33) hx dX9_endEvening_33 ?_
          refine dx_iconst (pc := 34) hx dX9_endEvening_34 kc_1 ?_
          refine dx_iand (pc := 35) hx dX9_endEvening_35 ?_
          refine dx_if_ne (pc := 36) hx dX9_endEvening_36 (tgt := 43) (by decide) (fun c36 => ?_) (fun c36 => ?_)
          · replace h := (if_neg c36).symm.trans h
            refine dx_iconst (pc := 43) hx dX9_endEvening_43 kc_0 ?_
            obtain rfl := Option.some.inj h
            exact hk
          · replace h := (if_pos c36).symm.trans h
            refine dx_iconst (pc := 39) hx dX9_endEvening_39 kc_1 ?_
            refine dx_goto (pc := 40) hx dX9_endEvening_40 (tgt := 44) (by decide) ?_
            obtain rfl := Option.some.inj h
            exact hk
set_option maxHeartbeats 4000000 in
set_option maxRecDepth 100000 in
theorem th_X9_endEvening {σ : dc_HP} {r : dc_HP} (h : fn_X9_endEvening σ = some r) : dc_G mX9_endEvening [.ref 55] σ (dc_qv (fun τ => τ = r)) := by
  intro κ hO
  have hx : dc_Cx κ RX9 cX9_endEvening 4 2 46 := hO.1
  show dc_X κ 0 [some (.ref 55), none, none, none] [] σ
  unfold fn_X9_endEvening at h
  refine dx_iconst (pc := 0) hx dX9_endEvening_0 kc_0 ?_
  refine dx_istore_n (pc := 1) hx dX9_endEvening_1 (dc_le rfl) (ls' := [some (.ref 55), some (.int (nI 0)), none, none]) rfl ?_
  obtain ⟨q2, h2, h⟩ := Option.bind_eq_some_iff.mp h
  refine (tl_X9_endEvening_L2 hO  200 (nI 0) σ q2 h2 ?_)
  refine dx_aload_n (pc := 101) hx dX9_endEvening_101 rfl ?_
  refine dx_iconst (pc := 102) hx dX9_endEvening_102 kc_0 ?_
  refine dx_putI (pc := 103) hx dX9_endEvening_103 f_X9_92 rfl rfl tyX9_ok rfl (Or.inl ⟨rfl, rfl⟩) ?_
  refine dx_nm (fun s103 e103 => ?_)
  replace h := dc_lt e103 h
  refine dx_aload_n (pc := 106) hx dX9_endEvening_106 rfl ?_
  refine dx_dup (pc := 107) hx dX9_endEvening_107 rfl ?_
  refine dx_getI (pc := 108) hx dX9_endEvening_108 f_X9_154 rfl rfl ?_
  refine dx_iconst (pc := 111) hx dX9_endEvening_111 kc_1 ?_
  refine dx_iadd (pc := 112) hx dX9_endEvening_112 ?_
  refine dx_putI (pc := 113) hx dX9_endEvening_113 f_X9_154 rfl rfl tyX9_ok rfl (Or.inl ⟨rfl, rfl⟩) ?_
  obtain rfl := Option.some.inj h
  exact dx_vret hO (pc := 116) dX9_endEvening_116 rfl ⟨rfl, rfl⟩
set_option maxHeartbeats 4000000 in
set_option maxRecDepth 100000 in
theorem th_X9_happen {σ : dc_HP} {x1 : Int32} {x2 : Int32} {x3 : Int32} {r : dc_HP} (h : fn_X9_happen σ x1 x2 x3 = some r) : dc_G mX9_happen [.ref 55, .int x1, .int x2, .int x3] σ (dc_qv (fun τ => τ = r)) := by
  intro κ hO
  have hx : dc_Cx κ RX9 cX9_happen 4 5 116 := hO.1
  show dc_X κ 0 [some (.ref 55), some (.int x1), some (.int x2), some (.int x3)] [] σ
  unfold fn_X9_happen at h
  refine dx_iload_n (pc := 0) hx dX9_happen_0 rfl ?_
  by_cases c1_0 : x1 = nI 0
  · replace h := (if_pos c1_0).symm.trans h
    refine dx_tableIn (pc := 1) hx dX9_happen_1 (by rw [c1_0]; decide) (by rw [c1_0]; decide) (off := 35) (by rw [c1_0]; decide) (tgt := 36) (by decide) ?_
    refine dx_aload_n (pc := 36) hx dX9_happen_36 rfl ?_
    refine dx_iload_n (pc := 37) hx dX9_happen_37 rfl ?_
    obtain ⟨r38, h38, h⟩ := Option.bind_eq_some_iff.mp h
    refine dx_callVvw (pc := 38) (As := [.int x2]) (rest := []) hx dX9_happen_38 k_X9_173 rfl rfl rfl rfl (dc_le rfl) (dc_le rfl) (dc_le rfl) (dc_le rfl) rfl (th_X9_singPiece h38) ?_
    refine dx_goto (pc := 41) hx dX9_happen_41 (tgt := 111) (by decide) ?_
    obtain rfl := Option.some.inj h
    exact dx_vret hO (pc := 111) dX9_happen_111 rfl ⟨rfl, rfl⟩
  replace h := (if_neg c1_0).symm.trans h
  by_cases c1_1 : x1 = nI 1
  · replace h := (if_pos c1_1).symm.trans h
    refine dx_tableIn (pc := 1) hx dX9_happen_1 (by rw [c1_1]; decide) (by rw [c1_1]; decide) (off := 43) (by rw [c1_1]; decide) (tgt := 44) (by decide) ?_
    refine dx_aload_n (pc := 44) hx dX9_happen_44 rfl ?_
    refine dx_getR (r := 57) (pc := 45) hx dX9_happen_45 f_X9_13 rfl rfl ?_
    refine dx_iload_n (pc := 48) hx dX9_happen_48 rfl ?_
    refine dx_dup2 (pc := 49) hx dX9_happen_49 rfl rfl ?_
    by_cases g50 : x2 < 0 ∨ 8 ≤ x2.toNatClampNeg
    · cases (if_pos g50).symm.trans h
    replace h := (if_neg g50).symm.trans h
    refine dx_iald (pc := 50) hx dX9_happen_50 rfl g50 ?_
    refine dx_iload_n (pc := 51) hx dX9_happen_51 rfl ?_
    refine dx_iadd (pc := 52) hx dX9_happen_52 ?_
    by_cases g53 : x2 < 0 ∨ 8 ≤ x2.toNatClampNeg
    · cases (if_pos g53).symm.trans h
    replace h := (if_neg g53).symm.trans h
    refine dx_iast (pc := 53) hx dX9_happen_53 rfl g53 ?_
    refine dx_nm (fun s53 e53 => ?_)
    replace h := dc_lt e53 h
    refine dx_goto (pc := 54) hx dX9_happen_54 (tgt := 111) (by decide) ?_
    obtain rfl := Option.some.inj h
    exact dx_vret hO (pc := 111) dX9_happen_111 rfl ⟨rfl, rfl⟩
  replace h := (if_neg c1_1).symm.trans h
  by_cases c1_2 : x1 = nI 2
  · replace h := (if_pos c1_2).symm.trans h
    refine dx_tableIn (pc := 1) hx dX9_happen_1 (by rw [c1_2]; decide) (by rw [c1_2]; decide) (off := 56) (by rw [c1_2]; decide) (tgt := 57) (by decide) ?_
    refine dx_aload_n (pc := 57) hx dX9_happen_57 rfl ?_
    refine dx_dup (pc := 58) hx dX9_happen_58 rfl ?_
    refine dx_getI (pc := 59) hx dX9_happen_59 f_X9_89 rfl rfl ?_
    refine dx_iconst (pc := 62) hx dX9_happen_62 kc_1 ?_
    refine dx_iload_n (pc := 63) hx dX9_happen_63 rfl ?_
    refine dx_ishl (pc := 64) hx dX9_happen_64 ?_
    refine dx_ixor (pc := 65) hx dX9_happen_65 ?_
    refine dx_putI (pc := 66) hx dX9_happen_66 f_X9_89 rfl rfl tyX9_ok rfl (Or.inl ⟨rfl, rfl⟩) ?_
    refine dx_nm (fun s66 e66 => ?_)
    replace h := dc_lt e66 h
    refine dx_goto (pc := 69) hx dX9_happen_69 (tgt := 111) (by decide) ?_
    obtain rfl := Option.some.inj h
    exact dx_vret hO (pc := 111) dX9_happen_111 rfl ⟨rfl, rfl⟩
  replace h := (if_neg c1_2).symm.trans h
  by_cases c1_3 : x1 = nI 3
  · replace h := (if_pos c1_3).symm.trans h
    refine dx_tableIn (pc := 1) hx dX9_happen_1 (by rw [c1_3]; decide) (by rw [c1_3]; decide) (off := 71) (by rw [c1_3]; decide) (tgt := 72) (by decide) ?_
    refine dx_aload_n (pc := 72) hx dX9_happen_72 rfl ?_
    refine dx_getR (r := 57) (pc := 73) hx dX9_happen_73 f_X9_13 rfl rfl ?_
    refine dx_iload_n (pc := 76) hx dX9_happen_76 rfl ?_
    refine dx_dup2 (pc := 77) hx dX9_happen_77 rfl rfl ?_
    by_cases g78 : x3 < 0 ∨ 8 ≤ x3.toNatClampNeg
    · cases (if_pos g78).symm.trans h
    replace h := (if_neg g78).symm.trans h
    refine dx_iald (pc := 78) hx dX9_happen_78 rfl g78 ?_
    refine dx_aload_n (pc := 79) hx dX9_happen_79 rfl ?_
    refine dx_getR (r := 57) (pc := 80) hx dX9_happen_80 f_X9_13 rfl rfl ?_
    refine dx_iload_n (pc := 83) hx dX9_happen_83 rfl ?_
    by_cases g84 : x2 < 0 ∨ 8 ≤ x2.toNatClampNeg
    · cases (if_pos g84).symm.trans h
    replace h := (if_neg g84).symm.trans h
    refine dx_iald (pc := 84) hx dX9_happen_84 rfl g84 ?_
    refine dx_iadd (pc := 85) hx dX9_happen_85 ?_
    by_cases g86 : x3 < 0 ∨ 8 ≤ x3.toNatClampNeg
    · cases (if_pos g86).symm.trans h
    replace h := (if_neg g86).symm.trans h
    refine dx_iast (pc := 86) hx dX9_happen_86 rfl g86 ?_
    refine dx_nm (fun s86 e86 => ?_)
    replace h := dc_lt e86 h
    refine dx_aload_n (pc := 87) hx dX9_happen_87 rfl ?_
    refine dx_getR (r := 57) (pc := 88) hx dX9_happen_88 f_X9_13 rfl rfl ?_
    refine dx_iload_n (pc := 91) hx dX9_happen_91 rfl ?_
    refine dx_iconst (pc := 92) hx dX9_happen_92 kc_0 ?_
    by_cases g93 : x2 < 0 ∨ 8 ≤ x2.toNatClampNeg
    · cases (if_pos g93).symm.trans h
    replace h := (if_neg g93).symm.trans h
    refine dx_iast (pc := 93) hx dX9_happen_93 rfl g93 ?_
    refine dx_nm (fun s93 e93 => ?_)
    replace h := dc_lt e93 h
    refine dx_goto (pc := 94) hx dX9_happen_94 (tgt := 111) (by decide) ?_
    obtain rfl := Option.some.inj h
    exact dx_vret hO (pc := 111) dX9_happen_111 rfl ⟨rfl, rfl⟩
  replace h := (if_neg c1_3).symm.trans h
  by_cases c1_4 : x1 = nI 4
  · replace h := (if_pos c1_4).symm.trans h
    refine dx_tableIn (pc := 1) hx dX9_happen_1 (by rw [c1_4]; decide) (by rw [c1_4]; decide) (off := 96) (by rw [c1_4]; decide) (tgt := 97) (by decide) ?_
    refine dx_aload_n (pc := 97) hx dX9_happen_97 rfl ?_
    refine dx_getR (r := 57) (pc := 98) hx dX9_happen_98 f_X9_13 rfl rfl ?_
    refine dx_iload_n (pc := 101) hx dX9_happen_101 rfl ?_
    refine dx_iconst (pc := 102) hx dX9_happen_102 kc_0 ?_
    by_cases g103 : x2 < 0 ∨ 8 ≤ x2.toNatClampNeg
    · cases (if_pos g103).symm.trans h
    replace h := (if_neg g103).symm.trans h
    refine dx_iast (pc := 103) hx dX9_happen_103 rfl g103 ?_
    refine dx_nm (fun s103 e103 => ?_)
    replace h := dc_lt e103 h
    refine dx_goto (pc := 104) hx dX9_happen_104 (tgt := 111) (by decide) ?_
    obtain rfl := Option.some.inj h
    exact dx_vret hO (pc := 111) dX9_happen_111 rfl ⟨rfl, rfl⟩
  replace h := (if_neg c1_4).symm.trans h
  refine dx_tableOut (pc := 1) hx dX9_happen_1 (by have z0 := dc_swn (k := 0) (by decide) c1_0; have z1 := dc_swn (k := 1) (by decide) c1_1; have z2 := dc_swn (k := 2) (by decide) c1_2; have z3 := dc_swn (k := 3) (by decide) c1_3; have z4 := dc_swn (k := 4) (by decide) c1_4; omega) (tgt := 107) (by decide) ?_
  refine dx_aload_n (pc := 107) hx dX9_happen_107 rfl ?_
  obtain ⟨r108, h108, h⟩ := Option.bind_eq_some_iff.mp h
  refine dx_callVvw (pc := 108) (As := []) (rest := []) hx dX9_happen_108 k_X9_177 rfl rfl rfl rfl (dc_le rfl) (dc_le rfl) (dc_le rfl) (dc_le rfl) rfl (th_X9_endEvening h108) ?_
  obtain rfl := Option.some.inj h
  exact dx_vret hO (pc := 111) dX9_happen_111 rfl ⟨rfl, rfl⟩
set_option maxHeartbeats 4000000 in
set_option maxRecDepth 100000 in
theorem tl_X9_leastOf_L2 {κ : dc_KX} {Q : Option Value → dc_HP → Prop} (hO : dc_Ok κ mX9_leastOf Q) (σ : dc_HP) (x0 : Int32) : ∀ (n : Nat) (x1 : Int32) (q : Int32), fn_X9_leastOf_L2 x0 n x1 = some q → ∀ (hk : dc_X κ 16 [some (.int x0), some (.int q)] [] σ), dc_X κ 2 [some (.int x0), some (.int x1)] [] σ := by
  have hx : dc_Cx κ RX9 cX9_leastOf 2 0 0 := hO.1
  intro n
  induction n with
  | zero =>
    intro x1 q h
    cases h
  | succ n ih =>
    intro x1 q h hk
    unfold fn_X9_leastOf_L2 at h
    refine dx_iload_n (pc := 2) hx dX9_leastOf_2 rfl ?_
    refine dx_iload_n (pc := 3) hx dX9_leastOf_3 rfl ?_
    refine dx_ishr (pc := 4) hx dX9_leastOf_4 ?_
    refine dx_iconst (pc := 5) hx dX9_leastOf_5 kc_1 ?_
    refine dx_iand (pc := 6) hx dX9_leastOf_6 ?_
    refine dx_if_ne (pc := 7) hx dX9_leastOf_7 (tgt := 16) (by decide) (fun c7 => ?_) (fun c7 => ?_)
    · replace h := (if_neg c7).symm.trans h
      obtain rfl := Option.some.inj h
      exact hk
    · replace h := (if_pos c7).symm.trans h
      refine dx_iinc (pc := 10) hx dX9_leastOf_10 rfl (v := x1 + nI 1) (congrArg (fun z => x1 + z) kc_1) (dc_le rfl) (ls' := [some (.int x0), some (.int (x1 + nI 1))]) rfl ?_
      refine dx_goto (pc := 13) hx dX9_leastOf_13 (tgt := 2) (by decide) ?_
      exact (ih (x1 + nI 1) q h hk)
set_option maxHeartbeats 4000000 in
set_option maxRecDepth 100000 in
theorem th_X9_leastOf {σ : dc_HP} {x0 : Int32} {r : Int32} (h : fn_X9_leastOf x0 = some r) : dc_G mX9_leastOf [.int x0] σ (dc_qi (fun x τ => x = r ∧ τ = σ)) := by
  intro κ hO
  have hx : dc_Cx κ RX9 cX9_leastOf 2 0 0 := hO.1
  show dc_X κ 0 [some (.int x0), none] [] σ
  unfold fn_X9_leastOf at h
  refine dx_iconst (pc := 0) hx dX9_leastOf_0 kc_0 ?_
  refine dx_istore_n (pc := 1) hx dX9_leastOf_1 (dc_le rfl) (ls' := [some (.int x0), some (.int (nI 0))]) rfl ?_
  obtain ⟨q2, h2, h⟩ := Option.bind_eq_some_iff.mp h
  refine (tl_X9_leastOf_L2 hO σ x0 200 (nI 0) q2 h2 ?_)
  refine dx_iload_n (pc := 16) hx dX9_leastOf_16 rfl ?_
  obtain rfl := Option.some.inj h
  exact dx_iret hO (pc := 17) dX9_leastOf_17 rfl ⟨_, rfl, rfl, rfl⟩
set_option maxHeartbeats 4000000 in
set_option maxRecDepth 100000 in
theorem th_X9_goOne {σ : dc_HP} {x1 : Int32} {r : dc_HP} (h : fn_X9_goOne σ x1 = some r) : dc_G mX9_goOne [.ref 55, .int x1] σ (dc_qv (fun τ => τ = r)) := by
  intro κ hO
  have hx : dc_Cx κ RX9 cX9_goOne 4 6 139 := hO.1
  show dc_X κ 0 [some (.ref 55), some (.int x1), none, none] [] σ
  unfold fn_X9_goOne at h
  refine dx_aload_n (pc := 0) hx dX9_goOne_0 rfl ?_
  obtain ⟨r1, h1, h⟩ := Option.bind_eq_some_iff.mp h
  refine dx_callVir (pc := 1) (As := []) (rest := []) hx dX9_goOne_1 k_X9_199 rfl rfl rfl rfl (dc_le rfl) (dc_le rfl) (dc_le rfl) (dc_le rfl) rfl (th_X9_owing h1) ?_
  refine dx_istore_n (pc := 4) hx dX9_goOne_4 (dc_le rfl) (ls' := [some (.ref 55), some (.int x1), some (.int r1), none]) rfl ?_
  refine dx_aload_n (pc := 5) hx dX9_goOne_5 rfl ?_
  refine dx_aload_n (pc := 6) hx dX9_goOne_6 rfl ?_
  refine dx_getR (r := 64) (pc := 7) hx dX9_goOne_7 f_X9_34 rfl rfl ?_
  refine dx_iload_n (pc := 10) hx dX9_goOne_10 rfl ?_
  by_cases g11 : x1 < 0 ∨ 60 ≤ x1.toNatClampNeg
  · cases (if_pos g11).symm.trans h
  replace h := (if_neg g11).symm.trans h
  refine dx_iald (pc := 11) hx dX9_goOne_11 rfl g11 ?_
  refine dx_aload_n (pc := 12) hx dX9_goOne_12 rfl ?_
  refine dx_getR (r := 65) (pc := 13) hx dX9_goOne_13 f_X9_37 rfl rfl ?_
  refine dx_iload_n (pc := 16) hx dX9_goOne_16 rfl ?_
  by_cases g17 : x1 < 0 ∨ 60 ≤ x1.toNatClampNeg
  · cases (if_pos g17).symm.trans h
  replace h := (if_neg g17).symm.trans h
  refine dx_iald (pc := 17) hx dX9_goOne_17 rfl g17 ?_
  refine dx_aload_n (pc := 18) hx dX9_goOne_18 rfl ?_
  refine dx_getR (r := 66) (pc := 19) hx dX9_goOne_19 f_X9_40 rfl rfl ?_
  refine dx_iload_n (pc := 22) hx dX9_goOne_22 rfl ?_
  by_cases g23 : x1 < 0 ∨ 60 ≤ x1.toNatClampNeg
  · cases (if_pos g23).symm.trans h
  replace h := (if_neg g23).symm.trans h
  refine dx_iald (pc := 23) hx dX9_goOne_23 rfl g23 ?_
  obtain ⟨r24, h24, h⟩ := Option.bind_eq_some_iff.mp h
  refine dx_callVvw (pc := 24) (As := [.int (σ.1 64 x1.toNatClampNeg), .int (σ.1 65 x1.toNatClampNeg), .int (σ.1 66 x1.toNatClampNeg)]) (rest := []) hx dX9_goOne_24 k_X9_203 rfl rfl rfl rfl (dc_le rfl) (dc_le rfl) (dc_le rfl) (dc_le rfl) rfl (th_X9_happen h24) ?_
  refine dx_iload_n (pc := 27) hx dX9_goOne_27 rfl ?_
  refine dx_aload_n (pc := 28) hx dX9_goOne_28 rfl ?_
  obtain ⟨r29, h29, h⟩ := Option.bind_eq_some_iff.mp h
  refine dx_callVir (pc := 29) (As := []) (rest := [.int r1]) hx dX9_goOne_29 k_X9_199 rfl rfl rfl rfl (dc_le rfl) (dc_le rfl) (dc_le rfl) (dc_le rfl) rfl (th_X9_owing h29) ?_
  refine dx_iconst (pc := 32) hx dX9_goOne_32 kc_m1 ?_
  refine dx_ixor (pc := 33) hx dX9_goOne_33 ?_
  refine dx_iand (pc := 34) hx dX9_goOne_34 ?_
  refine dx_istore_n (pc := 35) hx dX9_goOne_35 (dc_le rfl) (ls' := [some (.ref 55), some (.int x1), some (.int r1), some (.int (r1 &&& (r29 ^^^ ((-1 : Int32)))))]) rfl ?_
  refine dx_iload_n (pc := 36) hx dX9_goOne_36 rfl ?_
  refine dx_if_eq (pc := 37) hx dX9_goOne_37 (tgt := 60) (by decide) (fun c37 => ?_) (fun c37 => ?_)
  · replace h := (if_pos c37).symm.trans h
    obtain rfl := Option.some.inj h
    exact dx_vret hO (pc := 60) dX9_goOne_60 rfl ⟨rfl, rfl⟩
  · replace h := (if_neg c37).symm.trans h
    refine dx_aload_n (pc := 40) hx dX9_goOne_40 rfl ?_
    refine dx_getI (pc := 41) hx dX9_goOne_41 f_X9_186 rfl rfl ?_
    refine dx_if_ge (pc := 44) hx dX9_goOne_44 (tgt := 60) (by decide) (fun c44 => ?_) (fun c44 => ?_)
    · replace h := (if_pos c44).symm.trans h
      obtain rfl := Option.some.inj h
      exact dx_vret hO (pc := 60) dX9_goOne_60 rfl ⟨rfl, rfl⟩
    · replace h := (if_neg c44).symm.trans h
      refine dx_aload_n (pc := 47) hx dX9_goOne_47 rfl ?_
      refine dx_iload_n (pc := 48) hx dX9_goOne_48 rfl ?_
      refine dx_putI (pc := 49) hx dX9_goOne_49 f_X9_186 rfl rfl tyX9_ok rfl (Or.inl ⟨rfl, rfl⟩) ?_
      refine dx_nm (fun s49 e49 => ?_)
      replace h := dc_lt e49 h
      refine dx_aload_n (pc := 52) hx dX9_goOne_52 rfl ?_
      refine dx_iload_n (pc := 53) hx dX9_goOne_53 rfl ?_
      obtain ⟨r54, h54, h⟩ := Option.bind_eq_some_iff.mp h
      refine dx_callSir (pc := 54) (As := [.int (r1 &&& (r29 ^^^ ((-1 : Int32))))]) (rest := [.ref 55]) hx dX9_goOne_54 k_X9_207 rfl (dc_le rfl) (dc_le rfl) (dc_le rfl) (dc_le rfl) rfl (th_X9_leastOf h54) ?_
      refine dx_putI (pc := 57) hx dX9_goOne_57 f_X9_189 rfl rfl tyX9_ok rfl (Or.inl ⟨rfl, rfl⟩) ?_
      obtain rfl := Option.some.inj h
      exact dx_vret hO (pc := 60) dX9_goOne_60 rfl ⟨rfl, rfl⟩
set_option maxHeartbeats 4000000 in
set_option maxRecDepth 100000 in
theorem tl_X9_goEvenings_L36 {κ : dc_KX} {Q : Option Value → dc_HP → Prop} (hO : dc_Ok κ mX9_goEvenings Q) : ∀ (n : Nat) (x1 : Int32) (σ : dc_HP) (q : dc_HP), fn_X9_goEvenings_L36 n x1 σ = some q → ∀ (hk : dc_X κ 117 [some (.ref 55), none, none] [] q), dc_X κ 36 [some (.ref 55), some (.int x1), none] [] σ := by
  have hx : dc_Cx κ RX9 cX9_goEvenings 3 7 162 := hO.1
  intro n
  induction n with
  | zero =>
    intro x1 σ q h
    cases h
  | succ n ih =>
    intro x1 σ q h hk
    unfold fn_X9_goEvenings_L36 at h
    refine dx_iload_n (pc := 36) hx dX9_goEvenings_36 rfl ?_
    refine dx_aload_n (pc := 37) hx dX9_goEvenings_37 rfl ?_
    refine dx_getI (pc := 38) hx dX9_goEvenings_38 f_X9_121 rfl rfl ?_
    refine dx_icmp_ge (pc := 41) hx dX9_goEvenings_41 (tgt := 117) (by decide) (fun c41 => ?_) (fun c41 => ?_)
    · replace h := (if_pos c41).symm.trans h
      obtain rfl := Option.some.inj h
      exact dx_wk [true, false, true] <| hk
    · replace h := (if_neg c41).symm.trans h
      refine dx_aload_n (pc := 44) hx dX9_goEvenings_44 rfl ?_
      refine dx_getI (pc := 45) hx dX9_goEvenings_45 f_X9_180 rfl rfl ?_
      refine dx_if_ge (pc := 48) hx dX9_goEvenings_48 (tgt := 117) (by decide) (fun c48 => ?_) (fun c48 => ?_)
      · replace h := (if_pos c48).symm.trans h
        obtain rfl := Option.some.inj h
        exact dx_wk [true, false, true] <| hk
      · replace h := (if_neg c48).symm.trans h
        refine dx_aload_n (pc := 51) hx dX9_goEvenings_51 rfl ?_
        refine dx_aload_n (pc := 52) hx dX9_goEvenings_52 rfl ?_
        refine dx_getR (r := 64) (pc := 53) hx dX9_goEvenings_53 f_X9_34 rfl rfl ?_
        refine dx_iload_n (pc := 56) hx dX9_goEvenings_56 rfl ?_
        by_cases g57 : x1 < 0 ∨ 60 ≤ x1.toNatClampNeg
        · cases (if_pos g57).symm.trans h
        replace h := (if_neg g57).symm.trans h
        refine dx_iald (pc := 57) hx dX9_goEvenings_57 rfl g57 ?_
        refine dx_aload_n (pc := 58) hx dX9_goEvenings_58 rfl ?_
        refine dx_getR (r := 65) (pc := 59) hx dX9_goEvenings_59 f_X9_37 rfl rfl ?_
        refine dx_iload_n (pc := 62) hx dX9_goEvenings_62 rfl ?_
        by_cases g63 : x1 < 0 ∨ 60 ≤ x1.toNatClampNeg
        · cases (if_pos g63).symm.trans h
        replace h := (if_neg g63).symm.trans h
        refine dx_iald (pc := 63) hx dX9_goEvenings_63 rfl g63 ?_
        refine dx_aload_n (pc := 64) hx dX9_goEvenings_64 rfl ?_
        refine dx_getR (r := 66) (pc := 65) hx dX9_goEvenings_65 f_X9_40 rfl rfl ?_
        refine dx_iload_n (pc := 68) hx dX9_goEvenings_68 rfl ?_
        by_cases g69 : x1 < 0 ∨ 60 ≤ x1.toNatClampNeg
        · cases (if_pos g69).symm.trans h
        replace h := (if_neg g69).symm.trans h
        refine dx_iald (pc := 69) hx dX9_goEvenings_69 rfl g69 ?_
        obtain ⟨r70, h70, h⟩ := Option.bind_eq_some_iff.mp h
        refine dx_callVir (pc := 70) (As := [.int (σ.1 64 x1.toNatClampNeg), .int (σ.1 65 x1.toNatClampNeg), .int (σ.1 66 x1.toNatClampNeg)]) (rest := []) hx dX9_goEvenings_70 k_X9_192 rfl rfl rfl rfl (dc_le rfl) (dc_le rfl) (dc_le rfl) (dc_le rfl) rfl (th_X9_whyNot h70) ?_
        refine dx_istore_n (pc := 73) hx dX9_goEvenings_73 (dc_le rfl) (ls' := [some (.ref 55), some (.int x1), some (.int r70)]) rfl ?_
        refine dx_aload_n (pc := 74) hx dX9_goEvenings_74 rfl ?_
        refine dx_iload_n (pc := 75) hx dX9_goEvenings_75 rfl ?_
        obtain ⟨q76, hr, h⟩ := Option.bind_eq_some_iff.mp h
        have hk : dc_X κ 85 [some (.ref 55), some (.int x1), some (.int r70)] [.int q76, .ref 55] σ := by
          clear hr
          refine dx_putI (pc := 85) hx dX9_goEvenings_85 f_X9_180 rfl rfl tyX9_ok rfl (Or.inl ⟨rfl, rfl⟩) ?_
          refine dx_nm (fun s85 e85 => ?_)
          replace h := dc_lt e85 h
          refine dx_aload_n (pc := 88) hx dX9_goEvenings_88 rfl ?_
          refine dx_iload_n (pc := 89) hx dX9_goEvenings_89 rfl ?_
          obtain ⟨q90, hr, h⟩ := Option.bind_eq_some_iff.mp h
          have hk : dc_X κ 99 [some (.ref 55), some (.int x1), some (.int r70)] [.int q90, .ref 55] s85 := by
            clear hr
            refine dx_putI (pc := 99) hx dX9_goEvenings_99 f_X9_183 rfl rfl tyX9_ok rfl (Or.inl ⟨rfl, rfl⟩) ?_
            refine dx_nm (fun s99 e99 => ?_)
            replace h := dc_lt e99 h
            refine dx_iload_n (pc := 102) hx dX9_goEvenings_102 rfl ?_
            refine dx_if_ne (pc := 103) hx dX9_goEvenings_103 (tgt := 111) (by decide) (fun c103 => ?_) (fun c103 => ?_)
            · replace h := (if_neg c103).symm.trans h
              refine dx_iinc (pc := 111) hx dX9_goEvenings_111 rfl (v := x1 + nI 1) (congrArg (fun z => x1 + z) kc_1) (dc_le rfl) (ls' := [some (.ref 55), some (.int (x1 + nI 1)), some (.int r70)]) rfl ?_
              refine dx_goto (pc := 114) hx dX9_goEvenings_114 (tgt := 36) (by decide) ?_
              exact dx_wk [true, true, false] <| (ih (x1 + nI 1) s99 q h hk)
            · replace h := (if_pos c103).symm.trans h
              refine dx_aload_n (pc := 106) hx dX9_goEvenings_106 rfl ?_
              refine dx_iload_n (pc := 107) hx dX9_goEvenings_107 rfl ?_
              obtain ⟨r108, h108, h⟩ := Option.bind_eq_some_iff.mp h
              refine dx_callVvw (pc := 108) (As := [.int x1]) (rest := []) hx dX9_goEvenings_108 k_X9_196 rfl rfl rfl rfl (dc_le rfl) (dc_le rfl) (dc_le rfl) (dc_le rfl) rfl (th_X9_goOne h108) ?_
              refine dx_iinc (pc := 111) hx dX9_goEvenings_111 rfl (v := x1 + nI 1) (congrArg (fun z => x1 + z) kc_1) (dc_le rfl) (ls' := [some (.ref 55), some (.int (x1 + nI 1)), some (.int r70)]) rfl ?_
              refine dx_goto (pc := 114) hx dX9_goEvenings_114 (tgt := 36) (by decide) ?_
              exact dx_wk [true, true, false] <| (ih (x1 + nI 1) r108 q h hk)
          replace h := hr
          clear hr
          refine dx_if_le (pc := 90) hx dX9_goEvenings_90 (tgt := 97) (by decide) (fun c90 => ?_) (fun c90 => ?_)
          · replace h := (if_pos c90).symm.trans h
            refine dx_bipush (pc := 97) hx dX9_goEvenings_97 kb_m6 ?_
            obtain rfl := Option.some.inj h
            exact hk
          · replace h := (if_neg c90).symm.trans h
            refine dx_iload_n (pc := 93) hx dX9_goEvenings_93 rfl ?_
            refine dx_goto (pc := 94) hx dX9_goEvenings_94 (tgt := 99) (by decide) ?_
            obtain rfl := Option.some.inj h
            exact hk
        replace h := hr
        clear hr
        refine dx_if_le (pc := 76) hx dX9_goEvenings_76 (tgt := 83) (by decide) (fun c76 => ?_) (fun c76 => ?_)
        · replace h := (if_pos c76).symm.trans h
          refine dx_bipush (pc := 83) hx dX9_goEvenings_83 kb_m6 ?_
          obtain rfl := Option.some.inj h
          exact hk
        · replace h := (if_neg c76).symm.trans h
          refine dx_iload_n (pc := 79) hx dX9_goEvenings_79 rfl ?_
          refine dx_goto (pc := 80) hx dX9_goEvenings_80 (tgt := 85) (by decide) ?_
          obtain rfl := Option.some.inj h
          exact hk
set_option maxHeartbeats 4000000 in
set_option maxRecDepth 100000 in
theorem th_X9_goEvenings {σ : dc_HP} {r : dc_HP} (h : fn_X9_goEvenings σ = some r) : dc_G mX9_goEvenings [.ref 55] σ (dc_qv (fun τ => τ = r)) := by
  intro κ hO
  have hx : dc_Cx κ RX9 cX9_goEvenings 3 7 162 := hO.1
  show dc_X κ 0 [some (.ref 55), none, none] [] σ
  unfold fn_X9_goEvenings at h
  refine dx_aload_n (pc := 0) hx dX9_goEvenings_0 rfl ?_
  refine dx_iconst (pc := 1) hx dX9_goEvenings_1 kc_0 ?_
  refine dx_putI (pc := 2) hx dX9_goEvenings_2 f_X9_163 rfl rfl tyX9_ok rfl (Or.inl ⟨rfl, rfl⟩) ?_
  refine dx_nm (fun s2 e2 => ?_)
  replace h := dc_lt e2 h
  refine dx_aload_n (pc := 5) hx dX9_goEvenings_5 rfl ?_
  refine dx_iconst (pc := 6) hx dX9_goEvenings_6 kc_0 ?_
  refine dx_putI (pc := 7) hx dX9_goEvenings_7 f_X9_166 rfl rfl tyX9_ok rfl (Or.inl ⟨rfl, rfl⟩) ?_
  refine dx_nm (fun s7 e7 => ?_)
  replace h := dc_lt e7 h
  refine dx_aload_n (pc := 10) hx dX9_goEvenings_10 rfl ?_
  refine dx_bipush (pc := 11) hx dX9_goEvenings_11 kb_m6 ?_
  refine dx_putI (pc := 13) hx dX9_goEvenings_13 f_X9_180 rfl rfl tyX9_ok rfl (Or.inl ⟨rfl, rfl⟩) ?_
  refine dx_nm (fun s13 e13 => ?_)
  replace h := dc_lt e13 h
  refine dx_aload_n (pc := 16) hx dX9_goEvenings_16 rfl ?_
  refine dx_bipush (pc := 17) hx dX9_goEvenings_17 kb_m6 ?_
  refine dx_putI (pc := 19) hx dX9_goEvenings_19 f_X9_183 rfl rfl tyX9_ok rfl (Or.inl ⟨rfl, rfl⟩) ?_
  refine dx_nm (fun s19 e19 => ?_)
  replace h := dc_lt e19 h
  refine dx_aload_n (pc := 22) hx dX9_goEvenings_22 rfl ?_
  refine dx_bipush (pc := 23) hx dX9_goEvenings_23 kb_m6 ?_
  refine dx_putI (pc := 25) hx dX9_goEvenings_25 f_X9_186 rfl rfl tyX9_ok rfl (Or.inl ⟨rfl, rfl⟩) ?_
  refine dx_nm (fun s25 e25 => ?_)
  replace h := dc_lt e25 h
  refine dx_aload_n (pc := 28) hx dX9_goEvenings_28 rfl ?_
  refine dx_bipush (pc := 29) hx dX9_goEvenings_29 kb_m6 ?_
  refine dx_putI (pc := 31) hx dX9_goEvenings_31 f_X9_189 rfl rfl tyX9_ok rfl (Or.inl ⟨rfl, rfl⟩) ?_
  refine dx_nm (fun s31 e31 => ?_)
  replace h := dc_lt e31 h
  refine dx_iconst (pc := 34) hx dX9_goEvenings_34 kc_0 ?_
  refine dx_istore_n (pc := 35) hx dX9_goEvenings_35 (dc_le rfl) (ls' := [some (.ref 55), some (.int (nI 0)), none]) rfl ?_
  obtain ⟨q36, h36, h⟩ := Option.bind_eq_some_iff.mp h
  refine (tl_X9_goEvenings_L36 hO  200 (nI 0) s31 q36 h36 ?_)
  obtain rfl := Option.some.inj h
  exact dx_vret hO (pc := 117) dX9_goEvenings_117 rfl ⟨rfl, rfl⟩
set_option maxHeartbeats 4000000 in
set_option maxRecDepth 100000 in
theorem th_X9_refusal {σ : dc_HP} {r : Int32 × dc_HP} (h : fn_X9_refusal σ = some r) : dc_G mX9_refusal [.ref 55] σ (dc_qi (fun x τ => x = r.1 ∧ τ = r.2)) := by
  intro κ hO
  have hx : dc_Cx κ RX9 cX9_refusal 1 8 184 := hO.1
  show dc_X κ 0 [some (.ref 55)] [] σ
  unfold fn_X9_refusal at h
  refine dx_aload_n (pc := 0) hx dX9_refusal_0 rfl ?_
  obtain ⟨r1, h1, h⟩ := Option.bind_eq_some_iff.mp h
  refine dx_callVvw (pc := 1) (As := []) (rest := []) hx dX9_refusal_1 k_X9_210 rfl rfl rfl rfl (dc_le rfl) (dc_le rfl) (dc_le rfl) (dc_le rfl) rfl (th_X9_keepNow h1) ?_
  refine dx_aload_n (pc := 4) hx dX9_refusal_4 rfl ?_
  obtain ⟨r5, h5, h⟩ := Option.bind_eq_some_iff.mp h
  refine dx_callViw (pc := 5) (As := []) (rest := []) hx dX9_refusal_5 k_X9_213 rfl rfl rfl rfl (dc_le rfl) (dc_le rfl) (dc_le rfl) (dc_le rfl) rfl (th_X9_fault h5) ?_
  refine dx_if_lt (pc := 8) hx dX9_refusal_8 (tgt := 14) (by decide) (fun c8 => ?_) (fun c8 => ?_)
  · replace h := (if_pos c8).symm.trans h
    refine dx_aload_n (pc := 14) hx dX9_refusal_14 rfl ?_
    obtain ⟨r15, h15, h⟩ := Option.bind_eq_some_iff.mp h
    refine dx_callVvw (pc := 15) (As := []) (rest := []) hx dX9_refusal_15 k_X9_216 rfl rfl rfl rfl (dc_le rfl) (dc_le rfl) (dc_le rfl) (dc_le rfl) rfl (th_X9_goEvenings h15) ?_
    refine dx_aload_n (pc := 18) hx dX9_refusal_18 rfl ?_
    refine dx_getI (pc := 19) hx dX9_refusal_19 f_X9_180 rfl rfl ?_
    refine dx_if_lt (pc := 22) hx dX9_refusal_22 (tgt := 30) (by decide) (fun c22 => ?_) (fun c22 => ?_)
    · replace h := (if_pos c22).symm.trans h
      refine dx_bipush (pc := 30) hx dX9_refusal_30 kb_m6 ?_
      obtain rfl := Option.some.inj h
      exact dx_iret hO (pc := 32) dX9_refusal_32 rfl ⟨_, rfl, rfl, rfl⟩
    · replace h := (if_neg c22).symm.trans h
      refine dx_bipush (pc := 25) hx dX9_refusal_25 kb_m3 ?_
      refine dx_goto (pc := 27) hx dX9_refusal_27 (tgt := 32) (by decide) ?_
      obtain rfl := Option.some.inj h
      exact dx_iret hO (pc := 32) dX9_refusal_32 rfl ⟨_, rfl, rfl, rfl⟩
  · replace h := (if_neg c8).symm.trans h
    refine dx_bipush (pc := 11) hx dX9_refusal_11 kb_m5 ?_
    obtain rfl := Option.some.inj h
    exact dx_iret hO (pc := 13) dX9_refusal_13 rfl ⟨_, rfl, rfl, rfl⟩
set_option maxHeartbeats 4000000 in
set_option maxRecDepth 100000 in
theorem tl_X9_back_L2 {κ : dc_KX} {Q : Option Value → dc_HP → Prop} (hO : dc_Ok κ mX9_back Q) (x1 : Int32) : ∀ (n : Nat) (x2 : Int32) (σ : dc_HP) (q : dc_HP), fn_X9_back_L2 x1 n x2 σ = some q → ∀ (hk : dc_X κ 26 [some (.ref 55), some (.int x1), none] [] q), dc_X κ 2 [some (.ref 55), some (.int x1), some (.int x2)] [] σ := by
  have hx : dc_Cx κ RX9 cX9_back 3 0 0 := hO.1
  intro n
  induction n with
  | zero =>
    intro x2 σ q h
    cases h
  | succ n ih =>
    intro x2 σ q h hk
    unfold fn_X9_back_L2 at h
    refine dx_iload_n (pc := 2) hx dX9_back_2 rfl ?_
    refine dx_bipush (pc := 3) hx dX9_back_3 kb_8 ?_
    refine dx_icmp_ge (pc := 5) hx dX9_back_5 (tgt := 26) (by decide) (fun c5 => ?_) (fun c5 => ?_)
    · replace h := (if_pos c5).symm.trans h
      obtain rfl := Option.some.inj h
      exact dx_wk [true, true, false] <| hk
    · replace h := (if_neg c5).symm.trans h
      refine dx_aload_n (pc := 8) hx dX9_back_8 rfl ?_
      refine dx_getR (r := 57) (pc := 9) hx dX9_back_9 f_X9_13 rfl rfl ?_
      refine dx_iload_n (pc := 12) hx dX9_back_12 rfl ?_
      refine dx_aload_n (pc := 13) hx dX9_back_13 rfl ?_
      refine dx_getR (r := 67) (pc := 14) hx dX9_back_14 f_X9_43 rfl rfl ?_
      refine dx_iload_n (pc := 17) hx dX9_back_17 rfl ?_
      by_cases g18 : x2 < 0 ∨ 11 ≤ x2.toNatClampNeg
      · cases (if_pos g18).symm.trans h
      replace h := (if_neg g18).symm.trans h
      refine dx_iald (pc := 18) hx dX9_back_18 rfl g18 ?_
      by_cases g19 : x2 < 0 ∨ 8 ≤ x2.toNatClampNeg
      · cases (if_pos g19).symm.trans h
      replace h := (if_neg g19).symm.trans h
      refine dx_iast (pc := 19) hx dX9_back_19 rfl g19 ?_
      refine dx_nm (fun s19 e19 => ?_)
      replace h := dc_lt e19 h
      refine dx_iinc (pc := 20) hx dX9_back_20 rfl (v := x2 + nI 1) (congrArg (fun z => x2 + z) kc_1) (dc_le rfl) (ls' := [some (.ref 55), some (.int x1), some (.int (x2 + nI 1))]) rfl ?_
      refine dx_goto (pc := 23) hx dX9_back_23 (tgt := 2) (by decide) ?_
      exact (ih (x2 + nI 1) s19 q h hk)
set_option maxHeartbeats 4000000 in
set_option maxRecDepth 100000 in
theorem th_X9_back {σ : dc_HP} {x1 : Int32} {r : Int32 × dc_HP} (h : fn_X9_back σ x1 = some r) : dc_G mX9_back [.ref 55, .int x1] σ (dc_qi (fun x τ => x = r.1 ∧ τ = r.2)) := by
  intro κ hO
  have hx : dc_Cx κ RX9 cX9_back 3 0 0 := hO.1
  show dc_X κ 0 [some (.ref 55), some (.int x1), none] [] σ
  unfold fn_X9_back at h
  refine dx_iconst (pc := 0) hx dX9_back_0 kc_0 ?_
  refine dx_istore_n (pc := 1) hx dX9_back_1 (dc_le rfl) (ls' := [some (.ref 55), some (.int x1), some (.int (nI 0))]) rfl ?_
  obtain ⟨q2, h2, h⟩ := Option.bind_eq_some_iff.mp h
  refine (tl_X9_back_L2 hO x1 200 (nI 0) σ q2 h2 ?_)
  refine dx_aload_n (pc := 26) hx dX9_back_26 rfl ?_
  refine dx_aload_n (pc := 27) hx dX9_back_27 rfl ?_
  refine dx_getR (r := 67) (pc := 28) hx dX9_back_28 f_X9_43 rfl rfl ?_
  refine dx_bipush (pc := 31) hx dX9_back_31 kb_8 ?_
  refine dx_iald (pc := 33) hx dX9_back_33 rfl (vp_in_nI (dc_le rfl) (dc_le rfl)) ?_
  refine dx_putI (pc := 34) hx dX9_back_34 f_X9_89 rfl rfl tyX9_ok rfl (Or.inl ⟨rfl, rfl⟩) ?_
  refine dx_nm (fun s34 e34 => ?_)
  replace h := dc_lt e34 h
  refine dx_aload_n (pc := 37) hx dX9_back_37 rfl ?_
  refine dx_aload_n (pc := 38) hx dX9_back_38 rfl ?_
  refine dx_getR (r := 67) (pc := 39) hx dX9_back_39 f_X9_43 rfl rfl ?_
  refine dx_bipush (pc := 42) hx dX9_back_42 kb_9 ?_
  refine dx_iald (pc := 44) hx dX9_back_44 rfl (vp_in_nI (dc_le rfl) (dc_le rfl)) ?_
  refine dx_putI (pc := 45) hx dX9_back_45 f_X9_92 rfl rfl tyX9_ok rfl (Or.inl ⟨rfl, rfl⟩) ?_
  refine dx_nm (fun s45 e45 => ?_)
  replace h := dc_lt e45 h
  refine dx_aload_n (pc := 48) hx dX9_back_48 rfl ?_
  refine dx_aload_n (pc := 49) hx dX9_back_49 rfl ?_
  refine dx_getR (r := 67) (pc := 50) hx dX9_back_50 f_X9_43 rfl rfl ?_
  refine dx_bipush (pc := 53) hx dX9_back_53 kb_10 ?_
  refine dx_iald (pc := 55) hx dX9_back_55 rfl (vp_in_nI (dc_le rfl) (dc_le rfl)) ?_
  refine dx_putI (pc := 56) hx dX9_back_56 f_X9_154 rfl rfl tyX9_ok rfl (Or.inl ⟨rfl, rfl⟩) ?_
  refine dx_nm (fun s56 e56 => ?_)
  replace h := dc_lt e56 h
  refine dx_iload_n (pc := 59) hx dX9_back_59 rfl ?_
  obtain rfl := Option.some.inj h
  exact dx_iret hO (pc := 60) dX9_back_60 rfl ⟨_, rfl, rfl, rfl⟩
set_option maxHeartbeats 4000000 in
set_option maxRecDepth 100000 in
theorem th_X9_judge {σ : dc_HP} {x1 : Int32} {r : Int32 × dc_HP} (h : fn_X9_judge σ x1 = some r) : dc_G mX9_judge [.ref 55, .int x1] σ (dc_qi (fun x τ => x = r.1 ∧ τ = r.2)) := by
  intro κ hO
  have hx : dc_Cx κ RX9 cX9_judge 3 9 204 := hO.1
  show dc_X κ 0 [some (.ref 55), some (.int x1), none] [] σ
  unfold fn_X9_judge at h
  refine dx_iload_n (pc := 0) hx dX9_judge_0 rfl ?_
  refine dx_i2l (pc := 1) hx dX9_judge_1 ?_
  refine dx_lconst (pc := 2) hx dX9_judge_2 (v := (0 : Int64)) (by decide) ?_
  refine dx_ldc2 (pc := 3) hx dX9_judge_3 f_X9_219 ?_
  obtain ⟨r6, h6, h⟩ := Option.bind_eq_some_iff.mp h
  refine dx_callSir (pc := 6) (As := [.long x1.toInt64, .long ((0 : Int64)), .long ((2 : Int64))]) (rest := []) hx dX9_judge_6 k_X9_77 rfl (dc_le rfl) (dc_le rfl) (dc_le rfl) (dc_le rfl) rfl (th_X9_in h6) ?_
  refine dx_if_ne (pc := 9) hx dX9_judge_9 (tgt := 15) (by decide) (fun c9 => ?_) (fun c9 => ?_)
  · replace h := (if_neg c9).symm.trans h
    refine dx_aload_n (pc := 15) hx dX9_judge_15 rfl ?_
    refine dx_aload_n (pc := 16) hx dX9_judge_16 rfl ?_
    obtain ⟨r17, h17, h⟩ := Option.bind_eq_some_iff.mp h
    refine dx_callViw (pc := 17) (As := []) (rest := [.ref 55]) hx dX9_judge_17 k_X9_221 rfl rfl rfl rfl (dc_le rfl) (dc_le rfl) (dc_le rfl) (dc_le rfl) rfl (th_X9_refusal h17) ?_
    obtain ⟨r20, h20, h⟩ := Option.bind_eq_some_iff.mp h
    refine dx_callViw (pc := 20) (As := [.int r17.1]) (rest := []) hx dX9_judge_20 k_X9_224 rfl rfl rfl rfl (dc_le rfl) (dc_le rfl) (dc_le rfl) (dc_le rfl) rfl (th_X9_back h20) ?_
    refine dx_istore_n (pc := 23) hx dX9_judge_23 (dc_le rfl) (ls' := [some (.ref 55), some (.int x1), some (.int r20.1)]) rfl ?_
    refine dx_iload_n (pc := 24) hx dX9_judge_24 rfl ?_
    refine dx_bipush (pc := 25) hx dX9_judge_25 kb_m5 ?_
    refine dx_icmp_eq (pc := 27) hx dX9_judge_27 (tgt := 41) (by decide) (fun c27 => ?_) (fun c27 => ?_)
    · replace h := (if_pos c27).symm.trans h
      refine dx_iload_n (pc := 41) hx dX9_judge_41 rfl ?_
      obtain rfl := Option.some.inj h
      exact dx_iret hO (pc := 42) dX9_judge_42 rfl ⟨_, rfl, rfl, rfl⟩
    · replace h := (if_neg c27).symm.trans h
      refine dx_iload_n (pc := 30) hx dX9_judge_30 rfl ?_
      refine dx_iconst (pc := 31) hx dX9_judge_31 kc_1 ?_
      refine dx_icmp_le (pc := 32) hx dX9_judge_32 (tgt := 43) (by decide) (fun c32 => ?_) (fun c32 => ?_)
      · replace h := (if_pos c32).symm.trans h
        refine dx_iload_n (pc := 43) hx dX9_judge_43 rfl ?_
        refine dx_if_ne (pc := 44) hx dX9_judge_44 (tgt := 54) (by decide) (fun c44 => ?_) (fun c44 => ?_)
        · replace h := (if_neg c44).symm.trans h
          refine dx_iload_n (pc := 54) hx dX9_judge_54 rfl ?_
          refine dx_iconst (pc := 55) hx dX9_judge_55 kc_1 ?_
          refine dx_icmp_ne (pc := 56) hx dX9_judge_56 (tgt := 66) (by decide) (fun c56 => ?_) (fun c56 => ?_)
          · replace h := (if_neg c56).symm.trans h
            refine dx_aload_n (pc := 66) hx dX9_judge_66 rfl ?_
            refine dx_getI (pc := 67) hx dX9_judge_67 f_X9_166 rfl rfl ?_
            obtain rfl := Option.some.inj h
            exact dx_iret hO (pc := 70) dX9_judge_70 rfl ⟨_, rfl, rfl, rfl⟩
          · replace h := (if_pos c56).symm.trans h
            refine dx_aload_n (pc := 59) hx dX9_judge_59 rfl ?_
            refine dx_getI (pc := 60) hx dX9_judge_60 f_X9_183 rfl rfl ?_
            refine dx_goto (pc := 63) hx dX9_judge_63 (tgt := 70) (by decide) ?_
            obtain rfl := Option.some.inj h
            exact dx_iret hO (pc := 70) dX9_judge_70 rfl ⟨_, rfl, rfl, rfl⟩
        · replace h := (if_pos c44).symm.trans h
          refine dx_aload_n (pc := 47) hx dX9_judge_47 rfl ?_
          refine dx_getI (pc := 48) hx dX9_judge_48 f_X9_180 rfl rfl ?_
          refine dx_goto (pc := 51) hx dX9_judge_51 (tgt := 70) (by decide) ?_
          obtain rfl := Option.some.inj h
          exact dx_iret hO (pc := 70) dX9_judge_70 rfl ⟨_, rfl, rfl, rfl⟩
      · replace h := (if_neg c32).symm.trans h
        refine dx_iload_n (pc := 35) hx dX9_judge_35 rfl ?_
        refine dx_bipush (pc := 36) hx dX9_judge_36 kb_m3 ?_
        refine dx_icmp_ne (pc := 38) hx dX9_judge_38 (tgt := 43) (by decide) (fun c38 => ?_) (fun c38 => ?_)
        · replace h := (if_neg c38).symm.trans h
          refine dx_iload_n (pc := 43) hx dX9_judge_43 rfl ?_
          refine dx_if_ne (pc := 44) hx dX9_judge_44 (tgt := 54) (by decide) (fun c44 => ?_) (fun c44 => ?_)
          · replace h := (if_neg c44).symm.trans h
            refine dx_iload_n (pc := 54) hx dX9_judge_54 rfl ?_
            refine dx_iconst (pc := 55) hx dX9_judge_55 kc_1 ?_
            refine dx_icmp_ne (pc := 56) hx dX9_judge_56 (tgt := 66) (by decide) (fun c56 => ?_) (fun c56 => ?_)
            · replace h := (if_neg c56).symm.trans h
              refine dx_aload_n (pc := 66) hx dX9_judge_66 rfl ?_
              refine dx_getI (pc := 67) hx dX9_judge_67 f_X9_166 rfl rfl ?_
              obtain rfl := Option.some.inj h
              exact dx_iret hO (pc := 70) dX9_judge_70 rfl ⟨_, rfl, rfl, rfl⟩
            · replace h := (if_pos c56).symm.trans h
              refine dx_aload_n (pc := 59) hx dX9_judge_59 rfl ?_
              refine dx_getI (pc := 60) hx dX9_judge_60 f_X9_183 rfl rfl ?_
              refine dx_goto (pc := 63) hx dX9_judge_63 (tgt := 70) (by decide) ?_
              obtain rfl := Option.some.inj h
              exact dx_iret hO (pc := 70) dX9_judge_70 rfl ⟨_, rfl, rfl, rfl⟩
          · replace h := (if_pos c44).symm.trans h
            refine dx_aload_n (pc := 47) hx dX9_judge_47 rfl ?_
            refine dx_getI (pc := 48) hx dX9_judge_48 f_X9_180 rfl rfl ?_
            refine dx_goto (pc := 51) hx dX9_judge_51 (tgt := 70) (by decide) ?_
            obtain rfl := Option.some.inj h
            exact dx_iret hO (pc := 70) dX9_judge_70 rfl ⟨_, rfl, rfl, rfl⟩
        · replace h := (if_pos c38).symm.trans h
          refine dx_iload_n (pc := 41) hx dX9_judge_41 rfl ?_
          obtain rfl := Option.some.inj h
          exact dx_iret hO (pc := 42) dX9_judge_42 rfl ⟨_, rfl, rfl, rfl⟩
  · replace h := (if_pos c9).symm.trans h
    refine dx_bipush (pc := 12) hx dX9_judge_12 kb_m2 ?_
    obtain rfl := Option.some.inj h
    exact dx_iret hO (pc := 14) dX9_judge_14 rfl ⟨_, rfl, rfl, rfl⟩
set_option maxHeartbeats 4000000 in
set_option maxRecDepth 100000 in
theorem th_X9_behind {σ : dc_HP} {x1 : Int32} {x2 : Int32} {r : Int32 × dc_HP} (h : fn_X9_behind σ x1 x2 = some r) : dc_G mX9_behind [.ref 55, .int x1, .int x2] σ (dc_qi (fun x τ => x = r.1 ∧ τ = r.2)) := by
  intro κ hO
  have hx : dc_Cx κ RX9 cX9_behind 5 9 204 := hO.1
  show dc_X κ 0 [some (.ref 55), some (.int x1), some (.int x2), none, none] [] σ
  unfold fn_X9_behind at h
  refine dx_aload_n (pc := 0) hx dX9_behind_0 rfl ?_
  refine dx_iload_n (pc := 1) hx dX9_behind_1 rfl ?_
  obtain ⟨r2, h2, h⟩ := Option.bind_eq_some_iff.mp h
  refine dx_callVir (pc := 2) (As := [.int x1]) (rest := []) hx dX9_behind_2 k_X9_99 rfl rfl rfl rfl (dc_le rfl) (dc_le rfl) (dc_le rfl) (dc_le rfl) rfl (th_X9_isSinger h2) ?_
  refine dx_if_ne (pc := 5) hx dX9_behind_5 (tgt := 10) (by decide) (fun c5 => ?_) (fun c5 => ?_)
  · replace h := (if_neg c5).symm.trans h
    refine dx_iload_n (pc := 10) hx dX9_behind_10 rfl ?_
    refine dx_i2l (pc := 11) hx dX9_behind_11 ?_
    refine dx_lconst (pc := 12) hx dX9_behind_12 (v := (0 : Int64)) (by decide) ?_
    refine dx_ldc2 (pc := 13) hx dX9_behind_13 f_X9_219 ?_
    obtain ⟨r16, h16, h⟩ := Option.bind_eq_some_iff.mp h
    refine dx_callSir (pc := 16) (As := [.long x2.toInt64, .long ((0 : Int64)), .long ((2 : Int64))]) (rest := []) hx dX9_behind_16 k_X9_77 rfl (dc_le rfl) (dc_le rfl) (dc_le rfl) (dc_le rfl) rfl (th_X9_in h16) ?_
    refine dx_if_ne (pc := 19) hx dX9_behind_19 (tgt := 25) (by decide) (fun c19 => ?_) (fun c19 => ?_)
    · replace h := (if_neg c19).symm.trans h
      refine dx_aload_n (pc := 25) hx dX9_behind_25 rfl ?_
      obtain ⟨r26, h26, h⟩ := Option.bind_eq_some_iff.mp h
      refine dx_callViw (pc := 26) (As := []) (rest := []) hx dX9_behind_26 k_X9_221 rfl rfl rfl rfl (dc_le rfl) (dc_le rfl) (dc_le rfl) (dc_le rfl) rfl (th_X9_refusal h26) ?_
      refine dx_istore_n (pc := 29) hx dX9_behind_29 (dc_le rfl) (ls' := [some (.ref 55), some (.int x1), some (.int x2), some (.int r26.1), none]) rfl ?_
      refine dx_iload_n (pc := 30) hx dX9_behind_30 rfl ?_
      obtain ⟨q31, hr, h⟩ := Option.bind_eq_some_iff.mp h
      have hk : dc_X κ 63 [some (.ref 55), some (.int x1), some (.int x2), some (.int r26.1), none] [.int q31] r26.2 := by
        clear hr
        refine dx_istore (pc := 63) hx dX9_behind_63 (dc_le rfl) (ls' := [some (.ref 55), some (.int x1), some (.int x2), some (.int r26.1), some (.int q31)]) rfl ?_
        refine dx_aload_n (pc := 65) hx dX9_behind_65 rfl ?_
        refine dx_iload_n (pc := 66) hx dX9_behind_66 rfl ?_
        refine dx_bipush (pc := 67) hx dX9_behind_67 kb_m6 ?_
        obtain ⟨q69, hr, h⟩ := Option.bind_eq_some_iff.mp h
        have hk : dc_X κ 78 [some (.ref 55), some (.int x1), some (.int x2), some (.int r26.1), some (.int q31)] [.int q69, .ref 55] r26.2 := by
          clear hr
          obtain ⟨r78, h78, h⟩ := Option.bind_eq_some_iff.mp h
          refine dx_callViw (pc := 78) (As := [.int q69]) (rest := []) hx dX9_behind_78 k_X9_224 rfl rfl rfl rfl (dc_le rfl) (dc_le rfl) (dc_le rfl) (dc_le rfl) rfl (th_X9_back h78) ?_
          obtain rfl := Option.some.inj h
          exact dx_iret hO (pc := 81) dX9_behind_81 rfl ⟨_, rfl, rfl, rfl⟩
        replace h := hr
        clear hr
        refine dx_icmp_eq (pc := 69) hx dX9_behind_69 (tgt := 76) (by decide) (fun c69 => ?_) (fun c69 => ?_)
        · replace h := (if_pos c69).symm.trans h
          refine dx_iload (pc := 76) hx dX9_behind_76 rfl ?_
          obtain rfl := Option.some.inj h
          exact hk
        · replace h := (if_neg c69).symm.trans h
          refine dx_iload_n (pc := 72) hx dX9_behind_72 rfl ?_
          refine dx_goto (pc := 73) hx dX9_behind_73 (tgt := 78) (by decide) ?_
          obtain rfl := Option.some.inj h
          exact hk
      replace h := hr
      clear hr
      refine dx_if_ne (pc := 31) hx dX9_behind_31 (tgt := 43) (by decide) (fun c31 => ?_) (fun c31 => ?_)
      · replace h := (if_neg c31).symm.trans h
        refine dx_iload_n (pc := 43) hx dX9_behind_43 rfl ?_
        refine dx_iconst (pc := 44) hx dX9_behind_44 kc_1 ?_
        obtain ⟨q45, hr, h⟩ := Option.bind_eq_some_iff.mp h
        have hk : dc_X κ 59 [some (.ref 55), some (.int x1), some (.int x2), some (.int r26.1), none] [.int q45] r26.2 := by
          clear hr
          refine dx_iload_n (pc := 59) hx dX9_behind_59 rfl ?_
          refine dx_ishr (pc := 60) hx dX9_behind_60 ?_
          refine dx_iconst (pc := 61) hx dX9_behind_61 kc_1 ?_
          refine dx_iand (pc := 62) hx dX9_behind_62 ?_
          obtain rfl := Option.some.inj h
          exact hk
        replace h := hr
        clear hr
        refine dx_icmp_ne (pc := 45) hx dX9_behind_45 (tgt := 55) (by decide) (fun c45 => ?_) (fun c45 => ?_)
        · replace h := (if_neg c45).symm.trans h
          refine dx_aload_n (pc := 55) hx dX9_behind_55 rfl ?_
          refine dx_getI (pc := 56) hx dX9_behind_56 f_X9_92 rfl rfl ?_
          obtain rfl := Option.some.inj h
          exact hk
        · replace h := (if_pos c45).symm.trans h
          refine dx_aload_n (pc := 48) hx dX9_behind_48 rfl ?_
          refine dx_getI (pc := 49) hx dX9_behind_49 f_X9_89 rfl rfl ?_
          refine dx_goto (pc := 52) hx dX9_behind_52 (tgt := 59) (by decide) ?_
          obtain rfl := Option.some.inj h
          exact hk
      · replace h := (if_pos c31).symm.trans h
        refine dx_aload_n (pc := 34) hx dX9_behind_34 rfl ?_
        refine dx_getR (r := 57) (pc := 35) hx dX9_behind_35 f_X9_13 rfl rfl ?_
        refine dx_iload_n (pc := 38) hx dX9_behind_38 rfl ?_
        by_cases g39 : x1 < 0 ∨ 8 ≤ x1.toNatClampNeg
        · cases (if_pos g39).symm.trans h
        replace h := (if_neg g39).symm.trans h
        refine dx_iald (pc := 39) hx dX9_behind_39 rfl g39 ?_
        refine dx_goto (pc := 40) hx dX9_behind_40 (tgt := 63) (by decide) ?_
        obtain rfl := Option.some.inj h
        exact hk
    · replace h := (if_pos c19).symm.trans h
      refine dx_bipush (pc := 22) hx dX9_behind_22 kb_m2 ?_
      obtain rfl := Option.some.inj h
      exact dx_iret hO (pc := 24) dX9_behind_24 rfl ⟨_, rfl, rfl, rfl⟩
  · replace h := (if_pos c5).symm.trans h
    refine dx_iconst (pc := 8) hx dX9_behind_8 kc_m1 ?_
    obtain rfl := Option.some.inj h
    exact dx_iret hO (pc := 9) dX9_behind_9 rfl ⟨_, rfl, rfl, rfl⟩
set_option maxHeartbeats 4000000 in
set_option maxRecDepth 100000 in
theorem tl_X9_allDebts_L4 {κ : dc_KX} {Q : Option Value → dc_HP → Prop} (hO : dc_Ok κ mX9_allDebts Q) (σ : dc_HP) : ∀ (n : Nat) (x1 : Int32) (x2 : Int32) (q : Int32), fn_X9_allDebts_L4 σ n x1 x2 = some q → ∀ (hk : dc_X κ 37 [some (.ref 55), some (.int q), none] [] σ), dc_X κ 4 [some (.ref 55), some (.int x1), some (.int x2)] [] σ := by
  have hx : dc_Cx κ RX9 cX9_allDebts 3 2 46 := hO.1
  intro n
  induction n with
  | zero =>
    intro x1 x2 q h
    cases h
  | succ n ih =>
    intro x1 x2 q h hk
    unfold fn_X9_allDebts_L4 at h
    refine dx_iload_n (pc := 4) hx dX9_allDebts_4 rfl ?_
    refine dx_bipush (pc := 5) hx dX9_allDebts_5 kb_8 ?_
    refine dx_icmp_ge (pc := 7) hx dX9_allDebts_7 (tgt := 37) (by decide) (fun c7 => ?_) (fun c7 => ?_)
    · replace h := (if_pos c7).symm.trans h
      obtain rfl := Option.some.inj h
      exact dx_wk [true, true, false] <| hk
    · replace h := (if_neg c7).symm.trans h
      refine dx_iload_n (pc := 10) hx dX9_allDebts_10 rfl ?_
      refine dx_aload_n (pc := 11) hx dX9_allDebts_11 rfl ?_
      refine dx_iload_n (pc := 12) hx dX9_allDebts_12 rfl ?_
      obtain ⟨r13, h13, h⟩ := Option.bind_eq_some_iff.mp h
      refine dx_callVir (pc := 13) (As := [.int x2]) (rest := [.int x1]) hx dX9_allDebts_13 k_X9_99 rfl rfl rfl rfl (dc_le rfl) (dc_le rfl) (dc_le rfl) (dc_le rfl) rfl (th_X9_isSinger h13) ?_
      refine dx_if_eq (pc := 16) hx dX9_allDebts_16 (tgt := 28) (by decide) (fun c16 => ?_) (fun c16 => ?_)
      · replace h := (if_pos c16).symm.trans h
        refine dx_iconst (pc := 28) hx dX9_allDebts_28 kc_0 ?_
        refine dx_iadd (pc := 29) hx dX9_allDebts_29 ?_
        refine dx_istore_n (pc := 30) hx dX9_allDebts_30 (dc_le rfl) (ls' := [some (.ref 55), some (.int (x1 + (nI 0))), some (.int x2)]) rfl ?_
        refine dx_iinc (pc := 31) hx dX9_allDebts_31 rfl (v := x2 + nI 1) (congrArg (fun z => x2 + z) kc_1) (dc_le rfl) (ls' := [some (.ref 55), some (.int (x1 + (nI 0))), some (.int (x2 + nI 1))]) rfl ?_
        refine dx_goto (pc := 34) hx dX9_allDebts_34 (tgt := 4) (by decide) ?_
        exact (ih (x1 + (nI 0)) (x2 + nI 1) q h hk)
      · replace h := (if_neg c16).symm.trans h
        refine dx_aload_n (pc := 19) hx dX9_allDebts_19 rfl ?_
        refine dx_getR (r := 57) (pc := 20) hx dX9_allDebts_20 f_X9_13 rfl rfl ?_
        refine dx_iload_n (pc := 23) hx dX9_allDebts_23 rfl ?_
        by_cases g24 : x2 < 0 ∨ 8 ≤ x2.toNatClampNeg
        · cases (if_pos g24).symm.trans h
        replace h := (if_neg g24).symm.trans h
        refine dx_iald (pc := 24) hx dX9_allDebts_24 rfl g24 ?_
        refine dx_goto (pc := 25) hx dX9_allDebts_25 (tgt := 29) (by decide) ?_
        refine dx_iadd (pc := 29) hx dX9_allDebts_29 ?_
        refine dx_istore_n (pc := 30) hx dX9_allDebts_30 (dc_le rfl) (ls' := [some (.ref 55), some (.int (x1 + (σ.1 57 x2.toNatClampNeg))), some (.int x2)]) rfl ?_
        refine dx_iinc (pc := 31) hx dX9_allDebts_31 rfl (v := x2 + nI 1) (congrArg (fun z => x2 + z) kc_1) (dc_le rfl) (ls' := [some (.ref 55), some (.int (x1 + (σ.1 57 x2.toNatClampNeg))), some (.int (x2 + nI 1))]) rfl ?_
        refine dx_goto (pc := 34) hx dX9_allDebts_34 (tgt := 4) (by decide) ?_
        exact (ih (x1 + (σ.1 57 x2.toNatClampNeg)) (x2 + nI 1) q h hk)
set_option maxHeartbeats 4000000 in
set_option maxRecDepth 100000 in
theorem th_X9_allDebts {σ : dc_HP} {r : Int32} (h : fn_X9_allDebts σ = some r) : dc_G mX9_allDebts [.ref 55] σ (dc_qi (fun x τ => x = r ∧ τ = σ)) := by
  intro κ hO
  have hx : dc_Cx κ RX9 cX9_allDebts 3 2 46 := hO.1
  show dc_X κ 0 [some (.ref 55), none, none] [] σ
  unfold fn_X9_allDebts at h
  refine dx_iconst (pc := 0) hx dX9_allDebts_0 kc_0 ?_
  refine dx_istore_n (pc := 1) hx dX9_allDebts_1 (dc_le rfl) (ls' := [some (.ref 55), some (.int (nI 0)), none]) rfl ?_
  refine dx_iconst (pc := 2) hx dX9_allDebts_2 kc_0 ?_
  refine dx_istore_n (pc := 3) hx dX9_allDebts_3 (dc_le rfl) (ls' := [some (.ref 55), some (.int (nI 0)), some (.int (nI 0))]) rfl ?_
  obtain ⟨q4, h4, h⟩ := Option.bind_eq_some_iff.mp h
  refine (tl_X9_allDebts_L4 hO σ  200 (nI 0) (nI 0) q4 h4 ?_)
  refine dx_iload_n (pc := 37) hx dX9_allDebts_37 rfl ?_
  obtain rfl := Option.some.inj h
  exact dx_iret hO (pc := 38) dX9_allDebts_38 rfl ⟨_, rfl, rfl, rfl⟩
set_option maxHeartbeats 4000000 in
set_option maxRecDepth 100000 in
theorem th_X9_owed {σ : dc_HP} {x1 : Int32} {r : Int32 × dc_HP} (h : fn_X9_owed σ x1 = some r) : dc_G mX9_owed [.ref 55, .int x1] σ (dc_qi (fun x τ => x = r.1 ∧ τ = r.2)) := by
  intro κ hO
  have hx : dc_Cx κ RX9 cX9_owed 3 9 204 := hO.1
  show dc_X κ 0 [some (.ref 55), some (.int x1), none] [] σ
  unfold fn_X9_owed at h
  refine dx_iload_n (pc := 0) hx dX9_owed_0 rfl ?_
  refine dx_i2l (pc := 1) hx dX9_owed_1 ?_
  refine dx_lconst (pc := 2) hx dX9_owed_2 (v := (0 : Int64)) (by decide) ?_
  refine dx_lconst (pc := 3) hx dX9_owed_3 (v := (1 : Int64)) (by decide) ?_
  obtain ⟨r4, h4, h⟩ := Option.bind_eq_some_iff.mp h
  refine dx_callSir (pc := 4) (As := [.long x1.toInt64, .long ((0 : Int64)), .long ((1 : Int64))]) (rest := []) hx dX9_owed_4 k_X9_77 rfl (dc_le rfl) (dc_le rfl) (dc_le rfl) (dc_le rfl) rfl (th_X9_in h4) ?_
  refine dx_if_ne (pc := 7) hx dX9_owed_7 (tgt := 13) (by decide) (fun c7 => ?_) (fun c7 => ?_)
  · replace h := (if_neg c7).symm.trans h
    refine dx_aload_n (pc := 13) hx dX9_owed_13 rfl ?_
    obtain ⟨r14, h14, h⟩ := Option.bind_eq_some_iff.mp h
    refine dx_callViw (pc := 14) (As := []) (rest := []) hx dX9_owed_14 k_X9_221 rfl rfl rfl rfl (dc_le rfl) (dc_le rfl) (dc_le rfl) (dc_le rfl) rfl (th_X9_refusal h14) ?_
    refine dx_istore_n (pc := 17) hx dX9_owed_17 (dc_le rfl) (ls' := [some (.ref 55), some (.int x1), some (.int r14.1)]) rfl ?_
    refine dx_aload_n (pc := 18) hx dX9_owed_18 rfl ?_
    refine dx_iload_n (pc := 19) hx dX9_owed_19 rfl ?_
    refine dx_bipush (pc := 20) hx dX9_owed_20 kb_m6 ?_
    obtain ⟨q22, hr, h⟩ := Option.bind_eq_some_iff.mp h
    have hk : dc_X κ 44 [some (.ref 55), some (.int x1), some (.int r14.1)] [.int q22, .ref 55] r14.2 := by
      clear hr
      obtain ⟨r44, h44, h⟩ := Option.bind_eq_some_iff.mp h
      refine dx_callViw (pc := 44) (As := [.int q22]) (rest := []) hx dX9_owed_44 k_X9_224 rfl rfl rfl rfl (dc_le rfl) (dc_le rfl) (dc_le rfl) (dc_le rfl) rfl (th_X9_back h44) ?_
      obtain rfl := Option.some.inj h
      exact dx_iret hO (pc := 47) dX9_owed_47 rfl ⟨_, rfl, rfl, rfl⟩
    replace h := hr
    clear hr
    refine dx_icmp_eq (pc := 22) hx dX9_owed_22 (tgt := 29) (by decide) (fun c22 => ?_) (fun c22 => ?_)
    · replace h := (if_pos c22).symm.trans h
      refine dx_iload_n (pc := 29) hx dX9_owed_29 rfl ?_
      refine dx_if_ne (pc := 30) hx dX9_owed_30 (tgt := 40) (by decide) (fun c30 => ?_) (fun c30 => ?_)
      · replace h := (if_neg c30).symm.trans h
        refine dx_aload_n (pc := 40) hx dX9_owed_40 rfl ?_
        refine dx_getI (pc := 41) hx dX9_owed_41 f_X9_163 rfl rfl ?_
        obtain rfl := Option.some.inj h
        exact hk
      · replace h := (if_pos c30).symm.trans h
        refine dx_aload_n (pc := 33) hx dX9_owed_33 rfl ?_
        obtain ⟨r34, h34, h⟩ := Option.bind_eq_some_iff.mp h
        refine dx_callVir (pc := 34) (As := []) (rest := [.ref 55]) hx dX9_owed_34 k_X9_227 rfl rfl rfl rfl (dc_le rfl) (dc_le rfl) (dc_le rfl) (dc_le rfl) rfl (th_X9_allDebts h34) ?_
        refine dx_goto (pc := 37) hx dX9_owed_37 (tgt := 44) (by decide) ?_
        obtain rfl := Option.some.inj h
        exact hk
    · replace h := (if_neg c22).symm.trans h
      refine dx_iload_n (pc := 25) hx dX9_owed_25 rfl ?_
      refine dx_goto (pc := 26) hx dX9_owed_26 (tgt := 44) (by decide) ?_
      obtain rfl := Option.some.inj h
      exact hk
  · replace h := (if_pos c7).symm.trans h
    refine dx_bipush (pc := 10) hx dX9_owed_10 kb_m2 ?_
    obtain rfl := Option.some.inj h
    exact dx_iret hO (pc := 12) dX9_owed_12 rfl ⟨_, rfl, rfl, rfl⟩
set_option maxHeartbeats 4000000 in
set_option maxRecDepth 100000 in
theorem th_X9_freed {σ : dc_HP} {x1 : Int32} {r : Int32 × dc_HP} (h : fn_X9_freed σ x1 = some r) : dc_G mX9_freed [.ref 55, .int x1] σ (dc_qi (fun x τ => x = r.1 ∧ τ = r.2)) := by
  intro κ hO
  have hx : dc_Cx κ RX9 cX9_freed 3 9 204 := hO.1
  show dc_X κ 0 [some (.ref 55), some (.int x1), none] [] σ
  unfold fn_X9_freed at h
  refine dx_iload_n (pc := 0) hx dX9_freed_0 rfl ?_
  refine dx_i2l (pc := 1) hx dX9_freed_1 ?_
  refine dx_lconst (pc := 2) hx dX9_freed_2 (v := (0 : Int64)) (by decide) ?_
  refine dx_lconst (pc := 3) hx dX9_freed_3 (v := (1 : Int64)) (by decide) ?_
  obtain ⟨r4, h4, h⟩ := Option.bind_eq_some_iff.mp h
  refine dx_callSir (pc := 4) (As := [.long x1.toInt64, .long ((0 : Int64)), .long ((1 : Int64))]) (rest := []) hx dX9_freed_4 k_X9_77 rfl (dc_le rfl) (dc_le rfl) (dc_le rfl) (dc_le rfl) rfl (th_X9_in h4) ?_
  refine dx_if_ne (pc := 7) hx dX9_freed_7 (tgt := 13) (by decide) (fun c7 => ?_) (fun c7 => ?_)
  · replace h := (if_neg c7).symm.trans h
    refine dx_aload_n (pc := 13) hx dX9_freed_13 rfl ?_
    refine dx_aload_n (pc := 14) hx dX9_freed_14 rfl ?_
    obtain ⟨r15, h15, h⟩ := Option.bind_eq_some_iff.mp h
    refine dx_callViw (pc := 15) (As := []) (rest := [.ref 55]) hx dX9_freed_15 k_X9_221 rfl rfl rfl rfl (dc_le rfl) (dc_le rfl) (dc_le rfl) (dc_le rfl) rfl (th_X9_refusal h15) ?_
    obtain ⟨r18, h18, h⟩ := Option.bind_eq_some_iff.mp h
    refine dx_callViw (pc := 18) (As := [.int r15.1]) (rest := []) hx dX9_freed_18 k_X9_224 rfl rfl rfl rfl (dc_le rfl) (dc_le rfl) (dc_le rfl) (dc_le rfl) rfl (th_X9_back h18) ?_
    refine dx_istore_n (pc := 21) hx dX9_freed_21 (dc_le rfl) (ls' := [some (.ref 55), some (.int x1), some (.int r18.1)]) rfl ?_
    refine dx_iload_n (pc := 22) hx dX9_freed_22 rfl ?_
    refine dx_bipush (pc := 23) hx dX9_freed_23 kb_m6 ?_
    refine dx_icmp_eq (pc := 25) hx dX9_freed_25 (tgt := 32) (by decide) (fun c25 => ?_) (fun c25 => ?_)
    · replace h := (if_pos c25).symm.trans h
      refine dx_iload_n (pc := 32) hx dX9_freed_32 rfl ?_
      refine dx_if_ne (pc := 33) hx dX9_freed_33 (tgt := 43) (by decide) (fun c33 => ?_) (fun c33 => ?_)
      · replace h := (if_neg c33).symm.trans h
        refine dx_aload_n (pc := 43) hx dX9_freed_43 rfl ?_
        refine dx_getI (pc := 44) hx dX9_freed_44 f_X9_189 rfl rfl ?_
        obtain rfl := Option.some.inj h
        exact dx_iret hO (pc := 47) dX9_freed_47 rfl ⟨_, rfl, rfl, rfl⟩
      · replace h := (if_pos c33).symm.trans h
        refine dx_aload_n (pc := 36) hx dX9_freed_36 rfl ?_
        refine dx_getI (pc := 37) hx dX9_freed_37 f_X9_186 rfl rfl ?_
        refine dx_goto (pc := 40) hx dX9_freed_40 (tgt := 47) (by decide) ?_
        obtain rfl := Option.some.inj h
        exact dx_iret hO (pc := 47) dX9_freed_47 rfl ⟨_, rfl, rfl, rfl⟩
    · replace h := (if_neg c25).symm.trans h
      refine dx_iload_n (pc := 28) hx dX9_freed_28 rfl ?_
      refine dx_goto (pc := 29) hx dX9_freed_29 (tgt := 47) (by decide) ?_
      obtain rfl := Option.some.inj h
      exact dx_iret hO (pc := 47) dX9_freed_47 rfl ⟨_, rfl, rfl, rfl⟩
  · replace h := (if_pos c7).symm.trans h
    refine dx_bipush (pc := 10) hx dX9_freed_10 kb_m2 ?_
    obtain rfl := Option.some.inj h
    exact dx_iret hO (pc := 12) dX9_freed_12 rfl ⟨_, rfl, rfl, rfl⟩
set_option maxHeartbeats 4000000 in
set_option maxRecDepth 100000 in
theorem th_X9_done {σ : dc_HP} {r : Int32 × dc_HP} (h : fn_X9_done σ = some r) : dc_G mX9_done [.ref 55] σ (dc_qi (fun x τ => x = r.1 ∧ τ = r.2)) := by
  intro κ hO
  have hx : dc_Cx κ RX9 cX9_done 2 9 204 := hO.1
  show dc_X κ 0 [some (.ref 55), none] [] σ
  unfold fn_X9_done at h
  refine dx_aload_n (pc := 0) hx dX9_done_0 rfl ?_
  obtain ⟨r1, h1, h⟩ := Option.bind_eq_some_iff.mp h
  refine dx_callViw (pc := 1) (As := []) (rest := []) hx dX9_done_1 k_X9_221 rfl rfl rfl rfl (dc_le rfl) (dc_le rfl) (dc_le rfl) (dc_le rfl) rfl (th_X9_refusal h1) ?_
  refine dx_istore_n (pc := 4) hx dX9_done_4 (dc_le rfl) (ls' := [some (.ref 55), some (.int r1.1)]) rfl ?_
  refine dx_iload_n (pc := 5) hx dX9_done_5 rfl ?_
  refine dx_bipush (pc := 6) hx dX9_done_6 kb_m6 ?_
  refine dx_icmp_eq (pc := 8) hx dX9_done_8 (tgt := 17) (by decide) (fun c8 => ?_) (fun c8 => ?_)
  · replace h := (if_pos c8).symm.trans h
    refine dx_aload_n (pc := 17) hx dX9_done_17 rfl ?_
    refine dx_iconst (pc := 18) hx dX9_done_18 kc_0 ?_
    refine dx_putI (pc := 19) hx dX9_done_19 f_X9_118 rfl rfl tyX9_ok rfl (Or.inl ⟨rfl, rfl⟩) ?_
    refine dx_nm (fun s19 e19 => ?_)
    replace h := dc_lt e19 h
    refine dx_aload_n (pc := 22) hx dX9_done_22 rfl ?_
    refine dx_getI (pc := 23) hx dX9_done_23 f_X9_121 rfl rfl ?_
    obtain rfl := Option.some.inj h
    exact dx_iret hO (pc := 26) dX9_done_26 rfl ⟨_, rfl, rfl, rfl⟩
  · replace h := (if_neg c8).symm.trans h
    refine dx_aload_n (pc := 11) hx dX9_done_11 rfl ?_
    refine dx_iload_n (pc := 12) hx dX9_done_12 rfl ?_
    obtain ⟨r13, h13, h⟩ := Option.bind_eq_some_iff.mp h
    refine dx_callViw (pc := 13) (As := [.int r1.1]) (rest := []) hx dX9_done_13 k_X9_224 rfl rfl rfl rfl (dc_le rfl) (dc_le rfl) (dc_le rfl) (dc_le rfl) rfl (th_X9_back h13) ?_
    obtain rfl := Option.some.inj h
    exact dx_iret hO (pc := 16) dX9_done_16 rfl ⟨_, rfl, rfl, rfl⟩
set_option maxHeartbeats 4000000 in
set_option maxRecDepth 100000 in
theorem tl_X9_may_L4 {κ : dc_KX} {Q : Option Value → dc_HP → Prop} (hO : dc_Ok κ mX9_may Q) (σ : dc_HP) : ∀ (n : Nat) (x1 : Int32) (x2 : Int32) (q : Int32), fn_X9_may_L4 σ n x1 x2 = some q → ∀ (hk : dc_X κ 34 [some (.ref 55), some (.int q), none] [] σ), dc_X κ 4 [some (.ref 55), some (.int x1), some (.int x2)] [] σ := by
  have hx : dc_Cx κ RX9 cX9_may 3 5 115 := hO.1
  intro n
  induction n with
  | zero =>
    intro x1 x2 q h
    cases h
  | succ n ih =>
    intro x1 x2 q h hk
    unfold fn_X9_may_L4 at h
    refine dx_iload_n (pc := 4) hx dX9_may_4 rfl ?_
    refine dx_bipush (pc := 5) hx dX9_may_5 kb_6 ?_
    refine dx_icmp_ge (pc := 7) hx dX9_may_7 (tgt := 34) (by decide) (fun c7 => ?_) (fun c7 => ?_)
    · replace h := (if_pos c7).symm.trans h
      obtain rfl := Option.some.inj h
      exact dx_wk [true, true, false] <| hk
    · replace h := (if_neg c7).symm.trans h
      refine dx_iload_n (pc := 10) hx dX9_may_10 rfl ?_
      refine dx_aload_n (pc := 11) hx dX9_may_11 rfl ?_
      refine dx_iload_n (pc := 12) hx dX9_may_12 rfl ?_
      obtain ⟨r13, h13, h⟩ := Option.bind_eq_some_iff.mp h
      refine dx_callVir (pc := 13) (As := [.int x2]) (rest := [.int x1]) hx dX9_may_13 k_X9_157 rfl rfl rfl rfl (dc_le rfl) (dc_le rfl) (dc_le rfl) (dc_le rfl) rfl (th_X9_canBeSung h13) ?_
      refine dx_if_eq (pc := 16) hx dX9_may_16 (tgt := 25) (by decide) (fun c16 => ?_) (fun c16 => ?_)
      · replace h := (if_pos c16).symm.trans h
        refine dx_iconst (pc := 25) hx dX9_may_25 kc_0 ?_
        refine dx_ior (pc := 26) hx dX9_may_26 ?_
        refine dx_istore_n (pc := 27) hx dX9_may_27 (dc_le rfl) (ls' := [some (.ref 55), some (.int (x1 ||| (nI 0))), some (.int x2)]) rfl ?_
        refine dx_iinc (pc := 28) hx dX9_may_28 rfl (v := x2 + nI 1) (congrArg (fun z => x2 + z) kc_1) (dc_le rfl) (ls' := [some (.ref 55), some (.int (x1 ||| (nI 0))), some (.int (x2 + nI 1))]) rfl ?_
        refine dx_goto (pc := 31) hx dX9_may_31 (tgt := 4) (by decide) ?_
        exact (ih (x1 ||| (nI 0)) (x2 + nI 1) q h hk)
      · replace h := (if_neg c16).symm.trans h
        refine dx_iconst (pc := 19) hx dX9_may_19 kc_1 ?_
        refine dx_iload_n (pc := 20) hx dX9_may_20 rfl ?_
        refine dx_ishl (pc := 21) hx dX9_may_21 ?_
        refine dx_goto (pc := 22) hx dX9_may_22 (tgt := 26) (by decide) ?_
        refine dx_ior (pc := 26) hx dX9_may_26 ?_
        refine dx_istore_n (pc := 27) hx dX9_may_27 (dc_le rfl) (ls' := [some (.ref 55), some (.int (x1 ||| ((nI 1) <<< (x2 &&& 31)))), some (.int x2)]) rfl ?_
        refine dx_iinc (pc := 28) hx dX9_may_28 rfl (v := x2 + nI 1) (congrArg (fun z => x2 + z) kc_1) (dc_le rfl) (ls' := [some (.ref 55), some (.int (x1 ||| ((nI 1) <<< (x2 &&& 31)))), some (.int (x2 + nI 1))]) rfl ?_
        refine dx_goto (pc := 31) hx dX9_may_31 (tgt := 4) (by decide) ?_
        exact (ih (x1 ||| ((nI 1) <<< (x2 &&& 31))) (x2 + nI 1) q h hk)
set_option maxHeartbeats 4000000 in
set_option maxRecDepth 100000 in
theorem th_X9_may {σ : dc_HP} {r : Int32} (h : fn_X9_may σ = some r) : dc_G mX9_may [.ref 55] σ (dc_qi (fun x τ => x = r ∧ τ = σ)) := by
  intro κ hO
  have hx : dc_Cx κ RX9 cX9_may 3 5 115 := hO.1
  show dc_X κ 0 [some (.ref 55), none, none] [] σ
  unfold fn_X9_may at h
  refine dx_iconst (pc := 0) hx dX9_may_0 kc_0 ?_
  refine dx_istore_n (pc := 1) hx dX9_may_1 (dc_le rfl) (ls' := [some (.ref 55), some (.int (nI 0)), none]) rfl ?_
  refine dx_iconst (pc := 2) hx dX9_may_2 kc_0 ?_
  refine dx_istore_n (pc := 3) hx dX9_may_3 (dc_le rfl) (ls' := [some (.ref 55), some (.int (nI 0)), some (.int (nI 0))]) rfl ?_
  obtain ⟨q4, h4, h⟩ := Option.bind_eq_some_iff.mp h
  refine (tl_X9_may_L4 hO σ  200 (nI 0) (nI 0) q4 h4 ?_)
  refine dx_iload_n (pc := 34) hx dX9_may_34 rfl ?_
  obtain rfl := Option.some.inj h
  exact dx_iret hO (pc := 35) dX9_may_35 rfl ⟨_, rfl, rfl, rfl⟩
set_option maxHeartbeats 4000000 in
set_option maxRecDepth 100000 in
theorem th_X9_isFor {σ : dc_HP} {x1 : Int32} {x2 : Int32} {r : Int32} (h : fn_X9_isFor σ x1 x2 = some r) : dc_G mX9_isFor [.ref 55, .int x1, .int x2] σ (dc_qi (fun x τ => x = r ∧ τ = σ)) := by
  intro κ hO
  have hx : dc_Cx κ RX9 cX9_isFor 3 0 0 := hO.1
  show dc_X κ 0 [some (.ref 55), some (.int x1), some (.int x2)] [] σ
  unfold fn_X9_isFor at h
  refine dx_aload_n (pc := 0) hx dX9_isFor_0 rfl ?_
  refine dx_getR (r := 58) (pc := 1) hx dX9_isFor_1 f_X9_16 rfl rfl ?_
  refine dx_iconst (pc := 4) hx dX9_isFor_4 kc_4 ?_
  refine dx_iload_n (pc := 5) hx dX9_isFor_5 rfl ?_
  refine dx_imul (pc := 6) hx dX9_isFor_6 ?_
  refine dx_aload_n (pc := 7) hx dX9_isFor_7 rfl ?_
  refine dx_getR (r := 56) (pc := 8) hx dX9_isFor_8 f_X9_7 rfl rfl ?_
  refine dx_iload_n (pc := 11) hx dX9_isFor_11 rfl ?_
  by_cases g12 : x2 < 0 ∨ 8 ≤ x2.toNatClampNeg
  · cases (if_pos g12).symm.trans h
  replace h := (if_neg g12).symm.trans h
  refine dx_iald (pc := 12) hx dX9_isFor_12 rfl g12 ?_
  refine dx_iadd (pc := 13) hx dX9_isFor_13 ?_
  by_cases g14 : (((nI 4) * x1) + (σ.1 56 x2.toNatClampNeg)) < 0 ∨ 24 ≤ (((nI 4) * x1) + (σ.1 56 x2.toNatClampNeg)).toNatClampNeg
  · cases (if_pos g14).symm.trans h
  replace h := (if_neg g14).symm.trans h
  refine dx_iald (pc := 14) hx dX9_isFor_14 rfl g14 ?_
  refine dx_if_le (pc := 15) hx dX9_isFor_15 (tgt := 22) (by decide) (fun c15 => ?_) (fun c15 => ?_)
  · replace h := (if_pos c15).symm.trans h
    refine dx_iconst (pc := 22) hx dX9_isFor_22 kc_0 ?_
    obtain rfl := Option.some.inj h
    exact dx_zret hO (pc := 23) dX9_isFor_23 rfl rfl ⟨_, rfl, rfl, rfl⟩
  · replace h := (if_neg c15).symm.trans h
    refine dx_iconst (pc := 18) hx dX9_isFor_18 kc_1 ?_
    refine dx_goto (pc := 19) hx dX9_isFor_19 (tgt := 23) (by decide) ?_
    obtain rfl := Option.some.inj h
    exact dx_zret hO (pc := 23) dX9_isFor_23 rfl rfl ⟨_, rfl, rfl, rfl⟩
set_option maxHeartbeats 4000000 in
set_option maxRecDepth 100000 in
theorem th_X9_behindNight {σ : dc_HP} {x0 : Int32} {x1 : Int32} {r : Int32} (h : fn_X9_behindNight x0 x1 = some r) : dc_G mX9_behindNight [.int x0, .int x1] σ (dc_qi (fun x τ => x = r ∧ τ = σ)) := by
  intro κ hO
  have hx : dc_Cx κ RX9 cX9_behindNight 3 0 0 := hO.1
  show dc_X κ 0 [some (.int x0), some (.int x1), none] [] σ
  unfold fn_X9_behindNight at h
  refine dx_iload_n (pc := 0) hx dX9_behindNight_0 rfl ?_
  refine dx_iload_n (pc := 1) hx dX9_behindNight_1 rfl ?_
  refine dx_icmp_le (pc := 2) hx dX9_behindNight_2 (tgt := 11) (by decide) (fun c2 => ?_) (fun c2 => ?_)
  · replace h := (if_pos c2).symm.trans h
    refine dx_iconst (pc := 11) hx dX9_behindNight_11 kc_0 ?_
    refine dx_istore_n (pc := 12) hx dX9_behindNight_12 (dc_le rfl) (ls' := [some (.int x0), some (.int x1), some (.int (nI 0))]) rfl ?_
    refine dx_iload_n (pc := 13) hx dX9_behindNight_13 rfl ?_
    refine dx_iload_n (pc := 14) hx dX9_behindNight_14 rfl ?_
    refine dx_bipush (pc := 15) hx dX9_behindNight_15 kb_10 ?_
    refine dx_idiv (pc := 17) hx dX9_behindNight_17 (by decide) ?_
    refine dx_iadd (pc := 18) hx dX9_behindNight_18 ?_
    obtain rfl := Option.some.inj h
    exact dx_iret hO (pc := 19) dX9_behindNight_19 rfl ⟨_, rfl, rfl, rfl⟩
  · replace h := (if_neg c2).symm.trans h
    refine dx_iload_n (pc := 5) hx dX9_behindNight_5 rfl ?_
    refine dx_iload_n (pc := 6) hx dX9_behindNight_6 rfl ?_
    refine dx_isub (pc := 7) hx dX9_behindNight_7 ?_
    refine dx_goto (pc := 8) hx dX9_behindNight_8 (tgt := 12) (by decide) ?_
    refine dx_istore_n (pc := 12) hx dX9_behindNight_12 (dc_le rfl) (ls' := [some (.int x0), some (.int x1), some (.int (x0 - x1))]) rfl ?_
    refine dx_iload_n (pc := 13) hx dX9_behindNight_13 rfl ?_
    refine dx_iload_n (pc := 14) hx dX9_behindNight_14 rfl ?_
    refine dx_bipush (pc := 15) hx dX9_behindNight_15 kb_10 ?_
    refine dx_idiv (pc := 17) hx dX9_behindNight_17 (by decide) ?_
    refine dx_iadd (pc := 18) hx dX9_behindNight_18 ?_
    obtain rfl := Option.some.inj h
    exact dx_iret hO (pc := 19) dX9_behindNight_19 rfl ⟨_, rfl, rfl, rfl⟩
set_option maxHeartbeats 4000000 in
set_option maxRecDepth 100000 in
theorem tl_X9_bestOwed_L7 {κ : dc_KX} {Q : Option Value → dc_HP → Prop} (hO : dc_Ok κ mX9_bestOwed Q) (σ : dc_HP) (x1 : Int32) (x2 : Int32) : ∀ (n : Nat) (x3 : Int32) (x4 : Int32) (q : Int32), fn_X9_bestOwed_L7 σ x1 x2 n x3 x4 = some q → ∀ (hk : dc_X κ 116 [some (.ref 55), some (.int x1), some (.int x2), some (.int q), none, none, none, none] [] σ), dc_X κ 7 [some (.ref 55), some (.int x1), some (.int x2), some (.int x3), some (.int x4), none, none, none] [] σ := by
  have hx : dc_Cx κ RX9 cX9_bestOwed 8 1 22 := hO.1
  intro n
  induction n with
  | zero =>
    intro x3 x4 q h
    cases h
  | succ n ih =>
    intro x3 x4 q h hk
    unfold fn_X9_bestOwed_L7 at h
    refine dx_iload (pc := 7) hx dX9_bestOwed_7 rfl ?_
    refine dx_bipush (pc := 9) hx dX9_bestOwed_9 kb_6 ?_
    refine dx_icmp_ge (pc := 11) hx dX9_bestOwed_11 (tgt := 116) (by decide) (fun c11 => ?_) (fun c11 => ?_)
    · replace h := (if_pos c11).symm.trans h
      obtain rfl := Option.some.inj h
      exact dx_wk [true, true, true, true, false, true, true, true] <| hk
    · replace h := (if_neg c11).symm.trans h
      refine dx_aload_n (pc := 14) hx dX9_bestOwed_14 rfl ?_
      refine dx_getR (r := 68) (pc := 15) hx dX9_bestOwed_15 f_X9_46 rfl rfl ?_
      refine dx_iload_n (pc := 18) hx dX9_bestOwed_18 rfl ?_
      refine dx_iconst (pc := 19) hx dX9_bestOwed_19 kc_1 ?_
      refine dx_iload (pc := 20) hx dX9_bestOwed_20 rfl ?_
      refine dx_ishl (pc := 22) hx dX9_bestOwed_22 ?_
      refine dx_iconst (pc := 23) hx dX9_bestOwed_23 kc_m1 ?_
      refine dx_ixor (pc := 24) hx dX9_bestOwed_24 ?_
      refine dx_iand (pc := 25) hx dX9_bestOwed_25 ?_
      by_cases g26 : (x2 &&& (((nI 1) <<< (x4 &&& 31)) ^^^ ((-1 : Int32)))) < 0 ∨ 64 ≤ (x2 &&& (((nI 1) <<< (x4 &&& 31)) ^^^ ((-1 : Int32)))).toNatClampNeg
      · cases (if_pos g26).symm.trans h
      replace h := (if_neg g26).symm.trans h
      refine dx_iald (pc := 26) hx dX9_bestOwed_26 rfl g26 ?_
      refine dx_istore (pc := 27) hx dX9_bestOwed_27 (dc_le rfl) (ls' := [some (.ref 55), some (.int x1), some (.int x2), some (.int x3), some (.int x4), some (.int (σ.1 68 (x2 &&& (((nI 1) <<< (x4 &&& 31)) ^^^ ((-1 : Int32)))).toNatClampNeg)), none, none]) rfl ?_
      refine dx_iload_n (pc := 29) hx dX9_bestOwed_29 rfl ?_
      refine dx_iload (pc := 30) hx dX9_bestOwed_30 rfl ?_
      refine dx_ishr (pc := 32) hx dX9_bestOwed_32 ?_
      refine dx_iconst (pc := 33) hx dX9_bestOwed_33 kc_1 ?_
      refine dx_iand (pc := 34) hx dX9_bestOwed_34 ?_
      refine dx_iconst (pc := 35) hx dX9_bestOwed_35 kc_1 ?_
      obtain ⟨q36, hr, h⟩ := Option.bind_eq_some_iff.mp h
      have hk : dc_X κ 62 [some (.ref 55), some (.int x1), some (.int x2), some (.int x3), some (.int x4), some (.int (σ.1 68 (x2 &&& (((nI 1) <<< (x4 &&& 31)) ^^^ ((-1 : Int32)))).toNatClampNeg)), none, none] [.int q36] σ := by
        clear hr
        refine dx_istore (pc := 62) hx dX9_bestOwed_62 (dc_le rfl) (ls' := [some (.ref 55), some (.int x1), some (.int x2), some (.int x3), some (.int x4), some (.int (σ.1 68 (x2 &&& (((nI 1) <<< (x4 &&& 31)) ^^^ ((-1 : Int32)))).toNatClampNeg)), some (.int q36), none]) rfl ?_
        refine dx_iload (pc := 64) hx dX9_bestOwed_64 rfl ?_
        obtain ⟨q66, hr, h⟩ := Option.bind_eq_some_iff.mp h
        have hk : dc_X κ 95 [some (.ref 55), some (.int x1), some (.int x2), some (.int x3), some (.int x4), some (.int (σ.1 68 (x2 &&& (((nI 1) <<< (x4 &&& 31)) ^^^ ((-1 : Int32)))).toNatClampNeg)), some (.int q36), none] [.int q66] σ := by
          clear hr
          refine dx_istore (pc := 95) hx dX9_bestOwed_95 (dc_le rfl) (ls' := [some (.ref 55), some (.int x1), some (.int x2), some (.int x3), some (.int x4), some (.int (σ.1 68 (x2 &&& (((nI 1) <<< (x4 &&& 31)) ^^^ ((-1 : Int32)))).toNatClampNeg)), some (.int q36), some (.int q66)]) rfl ?_
          refine dx_iload (pc := 97) hx dX9_bestOwed_97 rfl ?_
          refine dx_iload_n (pc := 99) hx dX9_bestOwed_99 rfl ?_
          refine dx_icmp_ge (pc := 100) hx dX9_bestOwed_100 (tgt := 108) (by decide) (fun c100 => ?_) (fun c100 => ?_)
          · replace h := (if_pos c100).symm.trans h
            refine dx_iload_n (pc := 108) hx dX9_bestOwed_108 rfl ?_
            refine dx_istore_n (pc := 109) hx dX9_bestOwed_109 (dc_le rfl) (ls' := [some (.ref 55), some (.int x1), some (.int x2), some (.int x3), some (.int x4), some (.int (σ.1 68 (x2 &&& (((nI 1) <<< (x4 &&& 31)) ^^^ ((-1 : Int32)))).toNatClampNeg)), some (.int q36), some (.int q66)]) rfl ?_
            refine dx_iinc (pc := 110) hx dX9_bestOwed_110 rfl (v := x4 + nI 1) (congrArg (fun z => x4 + z) kc_1) (dc_le rfl) (ls' := [some (.ref 55), some (.int x1), some (.int x2), some (.int x3), some (.int (x4 + nI 1)), some (.int (σ.1 68 (x2 &&& (((nI 1) <<< (x4 &&& 31)) ^^^ ((-1 : Int32)))).toNatClampNeg)), some (.int q36), some (.int q66)]) rfl ?_
            refine dx_goto (pc := 113) hx dX9_bestOwed_113 (tgt := 7) (by decide) ?_
            exact dx_wk [true, true, true, true, true, false, false, false] <| (ih x3 (x4 + nI 1) q h hk)
          · replace h := (if_neg c100).symm.trans h
            refine dx_iload (pc := 103) hx dX9_bestOwed_103 rfl ?_
            refine dx_goto (pc := 105) hx dX9_bestOwed_105 (tgt := 109) (by decide) ?_
            refine dx_istore_n (pc := 109) hx dX9_bestOwed_109 (dc_le rfl) (ls' := [some (.ref 55), some (.int x1), some (.int x2), some (.int q66), some (.int x4), some (.int (σ.1 68 (x2 &&& (((nI 1) <<< (x4 &&& 31)) ^^^ ((-1 : Int32)))).toNatClampNeg)), some (.int q36), some (.int q66)]) rfl ?_
            refine dx_iinc (pc := 110) hx dX9_bestOwed_110 rfl (v := x4 + nI 1) (congrArg (fun z => x4 + z) kc_1) (dc_le rfl) (ls' := [some (.ref 55), some (.int x1), some (.int x2), some (.int q66), some (.int (x4 + nI 1)), some (.int (σ.1 68 (x2 &&& (((nI 1) <<< (x4 &&& 31)) ^^^ ((-1 : Int32)))).toNatClampNeg)), some (.int q36), some (.int q66)]) rfl ?_
            refine dx_goto (pc := 113) hx dX9_bestOwed_113 (tgt := 7) (by decide) ?_
            exact dx_wk [true, true, true, true, true, false, false, false] <| (ih q66 (x4 + nI 1) q h hk)
        replace h := hr
        clear hr
        refine dx_if_eq (pc := 66) hx dX9_bestOwed_66 (tgt := 92) (by decide) (fun c66 => ?_) (fun c66 => ?_)
        · replace h := (if_pos c66).symm.trans h
          refine dx_sipush (pc := 92) hx dX9_bestOwed_92 ks_9990 ?_
          obtain rfl := Option.some.inj h
          exact hk
        · replace h := (if_neg c66).symm.trans h
          refine dx_iload (pc := 69) hx dX9_bestOwed_69 rfl ?_
          refine dx_aload_n (pc := 71) hx dX9_bestOwed_71 rfl ?_
          refine dx_getR (r := 59) (pc := 72) hx dX9_bestOwed_72 f_X9_19 rfl rfl ?_
          refine dx_iload (pc := 75) hx dX9_bestOwed_75 rfl ?_
          by_cases g77 : x4 < 0 ∨ 6 ≤ x4.toNatClampNeg
          · cases (if_pos g77).symm.trans h
          replace h := (if_neg g77).symm.trans h
          refine dx_iald (pc := 77) hx dX9_bestOwed_77 rfl g77 ?_
          refine dx_aload_n (pc := 78) hx dX9_bestOwed_78 rfl ?_
          refine dx_getR (r := 60) (pc := 79) hx dX9_bestOwed_79 f_X9_22 rfl rfl ?_
          refine dx_iload (pc := 82) hx dX9_bestOwed_82 rfl ?_
          by_cases g84 : x4 < 0 ∨ 6 ≤ x4.toNatClampNeg
          · cases (if_pos g84).symm.trans h
          replace h := (if_neg g84).symm.trans h
          refine dx_iald (pc := 84) hx dX9_bestOwed_84 rfl g84 ?_
          refine dx_imul (pc := 85) hx dX9_bestOwed_85 ?_
          obtain ⟨r86, h86, h⟩ := Option.bind_eq_some_iff.mp h
          refine dx_callSir (pc := 86) (As := [.int (σ.1 68 (x2 &&& (((nI 1) <<< (x4 &&& 31)) ^^^ ((-1 : Int32)))).toNatClampNeg), .int ((σ.1 59 x4.toNatClampNeg) * (σ.1 60 x4.toNatClampNeg))]) (rest := []) hx dX9_bestOwed_86 k_X9_233 rfl (dc_le rfl) (dc_le rfl) (dc_le rfl) (dc_le rfl) rfl (th_X9_behindNight h86) ?_
          refine dx_goto (pc := 89) hx dX9_bestOwed_89 (tgt := 95) (by decide) ?_
          obtain rfl := Option.some.inj h
          exact hk
      replace h := hr
      clear hr
      refine dx_icmp_ne (pc := 36) hx dX9_bestOwed_36 (tgt := 61) (by decide) (fun c36 => ?_) (fun c36 => ?_)
      · replace h := (if_neg c36).symm.trans h
        refine dx_iconst (pc := 61) hx dX9_bestOwed_61 kc_0 ?_
        obtain rfl := Option.some.inj h
        exact hk
      · replace h := (if_pos c36).symm.trans h
        refine dx_aload_n (pc := 39) hx dX9_bestOwed_39 rfl ?_
        refine dx_iload (pc := 40) hx dX9_bestOwed_40 rfl ?_
        refine dx_iload_n (pc := 42) hx dX9_bestOwed_42 rfl ?_
        obtain ⟨r43, h43, h⟩ := Option.bind_eq_some_iff.mp h
        refine dx_callVir (pc := 43) (As := [.int x4, .int x1]) (rest := []) hx dX9_bestOwed_43 k_X9_230 rfl rfl rfl rfl (dc_le rfl) (dc_le rfl) (dc_le rfl) (dc_le rfl) rfl (th_X9_isFor h43) ?_
        refine dx_if_eq (pc := 46) hx dX9_bestOwed_46 (tgt := 61) (by decide) (fun c46 => ?_) (fun c46 => ?_)
        · replace h := (if_pos c46).symm.trans h
          refine dx_iconst (pc := 61) hx dX9_bestOwed_61 kc_0 ?_
          obtain rfl := Option.some.inj h
          exact hk
        · replace h := (if_neg c46).symm.trans h
          refine dx_iload (pc := 49) hx dX9_bestOwed_49 rfl ?_
          refine dx_sipush (pc := 51) hx dX9_bestOwed_51 ks_9990 ?_
          refine dx_icmp_ge (pc := 54) hx dX9_bestOwed_54 (tgt := 61) (by decide) (fun c54 => ?_) (fun c54 => ?_)
          · replace h := (if_pos c54).symm.trans h
            refine dx_iconst (pc := 61) hx dX9_bestOwed_61 kc_0 ?_
            obtain rfl := Option.some.inj h
            exact hk
          · replace h := (if_neg c54).symm.trans h
            refine dx_iconst (pc := 57) hx dX9_bestOwed_57 kc_1 ?_
            refine dx_goto (pc := 58) hx dX9_bestOwed_58 (tgt := 62) (by decide) ?_
            obtain rfl := Option.some.inj h
            exact hk
set_option maxHeartbeats 4000000 in
set_option maxRecDepth 100000 in
theorem th_X9_bestOwed {σ : dc_HP} {x1 : Int32} {x2 : Int32} {r : Int32} (h : fn_X9_bestOwed σ x1 x2 = some r) : dc_G mX9_bestOwed [.ref 55, .int x1, .int x2] σ (dc_qi (fun x τ => x = r ∧ τ = σ)) := by
  intro κ hO
  have hx : dc_Cx κ RX9 cX9_bestOwed 8 1 22 := hO.1
  show dc_X κ 0 [some (.ref 55), some (.int x1), some (.int x2), none, none, none, none, none] [] σ
  unfold fn_X9_bestOwed at h
  refine dx_sipush (pc := 0) hx dX9_bestOwed_0 ks_9990 ?_
  refine dx_istore_n (pc := 3) hx dX9_bestOwed_3 (dc_le rfl) (ls' := [some (.ref 55), some (.int x1), some (.int x2), some (.int (nI 9990)), none, none, none, none]) rfl ?_
  refine dx_iconst (pc := 4) hx dX9_bestOwed_4 kc_0 ?_
  refine dx_istore (pc := 5) hx dX9_bestOwed_5 (dc_le rfl) (ls' := [some (.ref 55), some (.int x1), some (.int x2), some (.int (nI 9990)), some (.int (nI 0)), none, none, none]) rfl ?_
  obtain ⟨q7, h7, h⟩ := Option.bind_eq_some_iff.mp h
  refine (tl_X9_bestOwed_L7 hO σ x1 x2 200 (nI 9990) (nI 0) q7 h7 ?_)
  refine dx_iload_n (pc := 116) hx dX9_bestOwed_116 rfl ?_
  obtain rfl := Option.some.inj h
  exact dx_iret hO (pc := 117) dX9_bestOwed_117 rfl ⟨_, rfl, rfl, rfl⟩
set_option maxHeartbeats 4000000 in
set_option maxRecDepth 100000 in
theorem tl_X9_fewestNights_L7 {κ : dc_KX} {Q : Option Value → dc_HP → Prop} (hO : dc_Ok κ mX9_fewestNights Q) (x1 : Int32) (x2 : Int32) (x3 : Int32) : ∀ (n : Nat) (x4 : Int32) (x5 : Int32) (σ : dc_HP) (q : Int32 × dc_HP), fn_X9_fewestNights_L7 x1 x2 x3 n x4 x5 σ = some q → ∀ (hk : dc_X κ 134 [some (.ref 55), some (.int x1), some (.int x2), some (.int x3), some (.int q.1), none, none, none] [] q.2), dc_X κ 7 [some (.ref 55), some (.int x1), some (.int x2), some (.int x3), some (.int x4), some (.int x5), none, none] [] σ := by
  have hx : dc_Cx κ RX9 cX9_fewestNights 8 2 49 := hO.1
  intro n
  induction n with
  | zero =>
    intro x4 x5 σ q h
    cases h
  | succ n ih =>
    intro x4 x5 σ q h hk
    unfold fn_X9_fewestNights_L7 at h
    refine dx_iload (pc := 7) hx dX9_fewestNights_7 rfl ?_
    refine dx_bipush (pc := 9) hx dX9_fewestNights_9 kb_64 ?_
    refine dx_icmp_ge (pc := 11) hx dX9_fewestNights_11 (tgt := 134) (by decide) (fun c11 => ?_) (fun c11 => ?_)
    · replace h := (if_pos c11).symm.trans h
      obtain rfl := Option.some.inj h
      exact dx_wk [true, true, true, true, true, false, true, true] <| hk
    · replace h := (if_neg c11).symm.trans h
      refine dx_iload (pc := 14) hx dX9_fewestNights_14 rfl ?_
      refine dx_iload_n (pc := 16) hx dX9_fewestNights_16 rfl ?_
      refine dx_iand (pc := 17) hx dX9_fewestNights_17 ?_
      refine dx_iload_n (pc := 18) hx dX9_fewestNights_18 rfl ?_
      obtain ⟨q19, hr, h⟩ := Option.bind_eq_some_iff.mp h
      have hk : dc_X κ 27 [some (.ref 55), some (.int x1), some (.int x2), some (.int x3), some (.int x4), some (.int x5), none, none] [.int q19] σ := by
        clear hr
        refine dx_istore (pc := 27) hx dX9_fewestNights_27 (dc_le rfl) (ls' := [some (.ref 55), some (.int x1), some (.int x2), some (.int x3), some (.int x4), some (.int x5), some (.int q19), none]) rfl ?_
        refine dx_aload_n (pc := 29) hx dX9_fewestNights_29 rfl ?_
        refine dx_getR (r := 68) (pc := 30) hx dX9_fewestNights_30 f_X9_46 rfl rfl ?_
        refine dx_iload (pc := 33) hx dX9_fewestNights_33 rfl ?_
        refine dx_iload (pc := 35) hx dX9_fewestNights_35 rfl ?_
        refine dx_iload_n (pc := 37) hx dX9_fewestNights_37 rfl ?_
        obtain ⟨q38, hr, h⟩ := Option.bind_eq_some_iff.mp h
        have hk : dc_X κ 48 [some (.ref 55), some (.int x1), some (.int x2), some (.int x3), some (.int x4), some (.int x5), some (.int q19), none] [.int q38, .int x5, .ref 68] σ := by
          clear hr
          by_cases g48 : x5 < 0 ∨ 64 ≤ x5.toNatClampNeg
          · cases (if_pos g48).symm.trans h
          replace h := (if_neg g48).symm.trans h
          refine dx_iast (pc := 48) hx dX9_fewestNights_48 rfl g48 ?_
          refine dx_nm (fun s48 e48 => ?_)
          replace h := dc_lt e48 h
          refine dx_iload (pc := 49) hx dX9_fewestNights_49 rfl ?_
          obtain ⟨q51, hr, h⟩ := Option.bind_eq_some_iff.mp h
          have hk : dc_X κ 74 [some (.ref 55), some (.int x1), some (.int x2), some (.int x3), some (.int x4), some (.int x5), some (.int q19), none] [] q51 := by
            clear hr
            refine dx_iload (pc := 74) hx dX9_fewestNights_74 rfl ?_
            obtain ⟨q76, hr, h⟩ := Option.bind_eq_some_iff.mp h
            have hk : dc_X κ 94 [some (.ref 55), some (.int x1), some (.int x2), some (.int x3), some (.int x4), some (.int x5), some (.int q19), none] [.int q76] q51 := by
              clear hr
              refine dx_istore (pc := 94) hx dX9_fewestNights_94 (dc_le rfl) (ls' := [some (.ref 55), some (.int x1), some (.int x2), some (.int x3), some (.int x4), some (.int x5), some (.int q19), some (.int q76)]) rfl ?_
              refine dx_iload (pc := 96) hx dX9_fewestNights_96 rfl ?_
              refine dx_if_eq (pc := 98) hx dX9_fewestNights_98 (tgt := 124) (by decide) (fun c98 => ?_) (fun c98 => ?_)
              · replace h := (if_pos c98).symm.trans h
                refine dx_iload (pc := 124) hx dX9_fewestNights_124 rfl ?_
                refine dx_istore (pc := 126) hx dX9_fewestNights_126 (dc_le rfl) (ls' := [some (.ref 55), some (.int x1), some (.int x2), some (.int x3), some (.int x4), some (.int x5), some (.int q19), some (.int q76)]) rfl ?_
                refine dx_iinc (pc := 128) hx dX9_fewestNights_128 rfl (v := x5 + nI 1) (congrArg (fun z => x5 + z) kc_1) (dc_le rfl) (ls' := [some (.ref 55), some (.int x1), some (.int x2), some (.int x3), some (.int x4), some (.int (x5 + nI 1)), some (.int q19), some (.int q76)]) rfl ?_
                refine dx_goto (pc := 131) hx dX9_fewestNights_131 (tgt := 7) (by decide) ?_
                exact dx_wk [true, true, true, true, true, true, false, false] <| (ih x4 (x5 + nI 1) q51 q h hk)
              · replace h := (if_neg c98).symm.trans h
                refine dx_iload (pc := 101) hx dX9_fewestNights_101 rfl ?_
                refine dx_if_lt (pc := 103) hx dX9_fewestNights_103 (tgt := 116) (by decide) (fun c103 => ?_) (fun c103 => ?_)
                · replace h := (if_pos c103).symm.trans h
                  refine dx_iload (pc := 116) hx dX9_fewestNights_116 rfl ?_
                  obtain ⟨r118, h118, h⟩ := Option.bind_eq_some_iff.mp h
                  refine dx_callSir (pc := 118) (As := [.int x5]) (rest := []) hx dX9_fewestNights_118 k_X9_95 rfl (dc_le rfl) (dc_le rfl) (dc_le rfl) (dc_le rfl) rfl (th_X9_bitsOf h118) ?_
                  refine dx_goto (pc := 121) hx dX9_fewestNights_121 (tgt := 126) (by decide) ?_
                  refine dx_istore (pc := 126) hx dX9_fewestNights_126 (dc_le rfl) (ls' := [some (.ref 55), some (.int x1), some (.int x2), some (.int x3), some (.int r118), some (.int x5), some (.int q19), some (.int q76)]) rfl ?_
                  refine dx_iinc (pc := 128) hx dX9_fewestNights_128 rfl (v := x5 + nI 1) (congrArg (fun z => x5 + z) kc_1) (dc_le rfl) (ls' := [some (.ref 55), some (.int x1), some (.int x2), some (.int x3), some (.int r118), some (.int (x5 + nI 1)), some (.int q19), some (.int q76)]) rfl ?_
                  refine dx_goto (pc := 131) hx dX9_fewestNights_131 (tgt := 7) (by decide) ?_
                  exact dx_wk [true, true, true, true, true, true, false, false] <| (ih r118 (x5 + nI 1) q51 q h hk)
                · replace h := (if_neg c103).symm.trans h
                  refine dx_iload (pc := 106) hx dX9_fewestNights_106 rfl ?_
                  obtain ⟨r108, h108, h⟩ := Option.bind_eq_some_iff.mp h
                  refine dx_callSir (pc := 108) (As := [.int x5]) (rest := []) hx dX9_fewestNights_108 k_X9_95 rfl (dc_le rfl) (dc_le rfl) (dc_le rfl) (dc_le rfl) rfl (th_X9_bitsOf h108) ?_
                  refine dx_iload (pc := 111) hx dX9_fewestNights_111 rfl ?_
                  refine dx_icmp_ge (pc := 113) hx dX9_fewestNights_113 (tgt := 124) (by decide) (fun c113 => ?_) (fun c113 => ?_)
                  · replace h := (if_pos c113).symm.trans h
                    refine dx_iload (pc := 124) hx dX9_fewestNights_124 rfl ?_
                    refine dx_istore (pc := 126) hx dX9_fewestNights_126 (dc_le rfl) (ls' := [some (.ref 55), some (.int x1), some (.int x2), some (.int x3), some (.int x4), some (.int x5), some (.int q19), some (.int q76)]) rfl ?_
                    refine dx_iinc (pc := 128) hx dX9_fewestNights_128 rfl (v := x5 + nI 1) (congrArg (fun z => x5 + z) kc_1) (dc_le rfl) (ls' := [some (.ref 55), some (.int x1), some (.int x2), some (.int x3), some (.int x4), some (.int (x5 + nI 1)), some (.int q19), some (.int q76)]) rfl ?_
                    refine dx_goto (pc := 131) hx dX9_fewestNights_131 (tgt := 7) (by decide) ?_
                    exact dx_wk [true, true, true, true, true, true, false, false] <| (ih x4 (x5 + nI 1) q51 q h hk)
                  · replace h := (if_neg c113).symm.trans h
                    refine dx_iload (pc := 116) hx dX9_fewestNights_116 rfl ?_
                    obtain ⟨r118, h118, h⟩ := Option.bind_eq_some_iff.mp h
                    refine dx_callSir (pc := 118) (As := [.int x5]) (rest := []) hx dX9_fewestNights_118 k_X9_95 rfl (dc_le rfl) (dc_le rfl) (dc_le rfl) (dc_le rfl) rfl (th_X9_bitsOf h118) ?_
                    refine dx_goto (pc := 121) hx dX9_fewestNights_121 (tgt := 126) (by decide) ?_
                    refine dx_istore (pc := 126) hx dX9_fewestNights_126 (dc_le rfl) (ls' := [some (.ref 55), some (.int x1), some (.int x2), some (.int x3), some (.int r118), some (.int x5), some (.int q19), some (.int q76)]) rfl ?_
                    refine dx_iinc (pc := 128) hx dX9_fewestNights_128 rfl (v := x5 + nI 1) (congrArg (fun z => x5 + z) kc_1) (dc_le rfl) (ls' := [some (.ref 55), some (.int x1), some (.int x2), some (.int x3), some (.int r118), some (.int (x5 + nI 1)), some (.int q19), some (.int q76)]) rfl ?_
                    refine dx_goto (pc := 131) hx dX9_fewestNights_131 (tgt := 7) (by decide) ?_
                    exact dx_wk [true, true, true, true, true, true, false, false] <| (ih r118 (x5 + nI 1) q51 q h hk)
            replace h := hr
            clear hr
            refine dx_if_eq (pc := 76) hx dX9_fewestNights_76 (tgt := 93) (by decide) (fun c76 => ?_) (fun c76 => ?_)
            · replace h := (if_pos c76).symm.trans h
              refine dx_iconst (pc := 93) hx dX9_fewestNights_93 kc_0 ?_
              obtain rfl := Option.some.inj h
              exact hk
            · replace h := (if_neg c76).symm.trans h
              refine dx_aload_n (pc := 79) hx dX9_fewestNights_79 rfl ?_
              refine dx_getR (r := 68) (pc := 80) hx dX9_fewestNights_80 f_X9_46 rfl rfl ?_
              refine dx_iload (pc := 83) hx dX9_fewestNights_83 rfl ?_
              by_cases g85 : x5 < 0 ∨ 64 ≤ x5.toNatClampNeg
              · cases (if_pos g85).symm.trans h
              replace h := (if_neg g85).symm.trans h
              refine dx_iald (pc := 85) hx dX9_fewestNights_85 rfl g85 ?_
              refine dx_if_ne (pc := 86) hx dX9_fewestNights_86 (tgt := 93) (by decide) (fun c86 => ?_) (fun c86 => ?_)
              · replace h := (if_neg c86).symm.trans h
                refine dx_iconst (pc := 93) hx dX9_fewestNights_93 kc_0 ?_
                obtain rfl := Option.some.inj h
                exact hk
              · replace h := (if_pos c86).symm.trans h
                refine dx_iconst (pc := 89) hx dX9_fewestNights_89 kc_1 ?_
                refine dx_goto (pc := 90) hx dX9_fewestNights_90 (tgt := 94) (by decide) ?_
                obtain rfl := Option.some.inj h
                exact hk
          replace h := hr
          clear hr
          refine dx_if_eq (pc := 51) hx dX9_fewestNights_51 (tgt := 74) (by decide) (fun c51 => ?_) (fun c51 => ?_)
          · replace h := (if_pos c51).symm.trans h
            obtain rfl := Option.some.inj h
            exact hk
          · replace h := (if_neg c51).symm.trans h
            refine dx_iload (pc := 54) hx dX9_fewestNights_54 rfl ?_
            refine dx_iload_n (pc := 56) hx dX9_fewestNights_56 rfl ?_
            refine dx_icmp_eq (pc := 57) hx dX9_fewestNights_57 (tgt := 74) (by decide) (fun c57 => ?_) (fun c57 => ?_)
            · replace h := (if_pos c57).symm.trans h
              obtain rfl := Option.some.inj h
              exact hk
            · replace h := (if_neg c57).symm.trans h
              refine dx_aload_n (pc := 60) hx dX9_fewestNights_60 rfl ?_
              refine dx_getR (r := 68) (pc := 61) hx dX9_fewestNights_61 f_X9_46 rfl rfl ?_
              refine dx_iload (pc := 64) hx dX9_fewestNights_64 rfl ?_
              refine dx_aload_n (pc := 66) hx dX9_fewestNights_66 rfl ?_
              refine dx_iload_n (pc := 67) hx dX9_fewestNights_67 rfl ?_
              refine dx_iload (pc := 68) hx dX9_fewestNights_68 rfl ?_
              obtain ⟨r70, h70, h⟩ := Option.bind_eq_some_iff.mp h
              refine dx_callVir (pc := 70) (As := [.int x1, .int x5]) (rest := [.int x5, .ref 68]) hx dX9_fewestNights_70 k_X9_236 rfl rfl rfl rfl (dc_le rfl) (dc_le rfl) (dc_le rfl) (dc_le rfl) rfl (th_X9_bestOwed h70) ?_
              by_cases g73 : x5 < 0 ∨ 64 ≤ x5.toNatClampNeg
              · cases (if_pos g73).symm.trans h
              replace h := (if_neg g73).symm.trans h
              refine dx_iast (pc := 73) hx dX9_fewestNights_73 rfl g73 ?_
              refine dx_nm (fun s73 e73 => ?_)
              replace h := dc_lt e73 h
              obtain rfl := Option.some.inj h
              exact hk
        replace h := hr
        clear hr
        refine dx_icmp_ne (pc := 38) hx dX9_fewestNights_38 (tgt := 45) (by decide) (fun c38 => ?_) (fun c38 => ?_)
        · replace h := (if_neg c38).symm.trans h
          refine dx_sipush (pc := 45) hx dX9_fewestNights_45 ks_9990 ?_
          obtain rfl := Option.some.inj h
          exact hk
        · replace h := (if_pos c38).symm.trans h
          refine dx_iload_n (pc := 41) hx dX9_fewestNights_41 rfl ?_
          refine dx_goto (pc := 42) hx dX9_fewestNights_42 (tgt := 48) (by decide) ?_
          obtain rfl := Option.some.inj h
          exact hk
      replace h := hr
      clear hr
      refine dx_icmp_ne (pc := 19) hx dX9_fewestNights_19 (tgt := 26) (by decide) (fun c19 => ?_) (fun c19 => ?_)
      · replace h := (if_neg c19).symm.trans h
        refine dx_iconst (pc := 26) hx dX9_fewestNights_26 kc_0 ?_
        obtain rfl := Option.some.inj h
        exact hk
      · replace h := (if_pos c19).symm.trans h
        refine dx_iconst (pc := 22) hx dX9_fewestNights_22 kc_1 ?_
        refine dx_goto (pc := 23) hx dX9_fewestNights_23 (tgt := 27) (by decide) ?_
        obtain rfl := Option.some.inj h
        exact hk
set_option maxHeartbeats 4000000 in
set_option maxRecDepth 100000 in
theorem th_X9_fewestNights {σ : dc_HP} {x1 : Int32} {x2 : Int32} {x3 : Int32} {r : Int32 × dc_HP} (h : fn_X9_fewestNights σ x1 x2 x3 = some r) : dc_G mX9_fewestNights [.ref 55, .int x1, .int x2, .int x3] σ (dc_qi (fun x τ => x = r.1 ∧ τ = r.2)) := by
  intro κ hO
  have hx : dc_Cx κ RX9 cX9_fewestNights 8 2 49 := hO.1
  show dc_X κ 0 [some (.ref 55), some (.int x1), some (.int x2), some (.int x3), none, none, none, none] [] σ
  unfold fn_X9_fewestNights at h
  refine dx_bipush (pc := 0) hx dX9_fewestNights_0 kb_m6 ?_
  refine dx_istore (pc := 2) hx dX9_fewestNights_2 (dc_le rfl) (ls' := [some (.ref 55), some (.int x1), some (.int x2), some (.int x3), some (.int ((-6 : Int32))), none, none, none]) rfl ?_
  refine dx_iconst (pc := 4) hx dX9_fewestNights_4 kc_0 ?_
  refine dx_istore (pc := 5) hx dX9_fewestNights_5 (dc_le rfl) (ls' := [some (.ref 55), some (.int x1), some (.int x2), some (.int x3), some (.int ((-6 : Int32))), some (.int (nI 0)), none, none]) rfl ?_
  obtain ⟨q7, h7, h⟩ := Option.bind_eq_some_iff.mp h
  refine (tl_X9_fewestNights_L7 hO x1 x2 x3 200 ((-6 : Int32)) (nI 0) σ q7 h7 ?_)
  refine dx_iload (pc := 134) hx dX9_fewestNights_134 rfl ?_
  obtain rfl := Option.some.inj h
  exact dx_iret hO (pc := 136) dX9_fewestNights_136 rfl ⟨_, rfl, rfl, rfl⟩
set_option maxHeartbeats 4000000 in
set_option maxRecDepth 100000 in
theorem tl_X9_firstNight_L2 {κ : dc_KX} {Q : Option Value → dc_HP → Prop} (hO : dc_Ok κ mX9_firstNight Q) (x1 : Int32) (x2 : Int32) : ∀ (n : Nat) (x3 : Int32) (σ : dc_HP) (q : (Int32 × dc_HP) ⊕ (dc_HP)), fn_X9_firstNight_L2 x1 x2 n x3 σ = some q → ∀ (hk : ∀ m : dc_HP, q = .inr m → dc_X κ 63 [some (.ref 55), some (.int x1), some (.int x2), none, none] [] m) (hr : ∀ r : Int32 × dc_HP, q = .inl r → Q (some (.int r.1)) r.2), dc_X κ 2 [some (.ref 55), some (.int x1), some (.int x2), some (.int x3), none] [] σ := by
  have hx : dc_Cx κ RX9 cX9_firstNight 5 3 76 := hO.1
  intro n
  induction n with
  | zero =>
    intro x3 σ q h
    cases h
  | succ n ih =>
    intro x3 σ q h hk hr
    unfold fn_X9_firstNight_L2 at h
    refine dx_iload_n (pc := 2) hx dX9_firstNight_2 rfl ?_
    refine dx_bipush (pc := 3) hx dX9_firstNight_3 kb_6 ?_
    refine dx_icmp_ge (pc := 5) hx dX9_firstNight_5 (tgt := 63) (by decide) (fun c5 => ?_) (fun c5 => ?_)
    · replace h := (if_pos c5).symm.trans h
      obtain rfl := Option.some.inj h
      exact dx_wk [true, true, true, false, true] <| (hk σ rfl)
    · replace h := (if_neg c5).symm.trans h
      refine dx_aload_n (pc := 8) hx dX9_firstNight_8 rfl ?_
      refine dx_getR (r := 57) (pc := 9) hx dX9_firstNight_9 f_X9_13 rfl rfl ?_
      refine dx_iload_n (pc := 12) hx dX9_firstNight_12 rfl ?_
      by_cases g13 : x1 < 0 ∨ 8 ≤ x1.toNatClampNeg
      · cases (if_pos g13).symm.trans h
      replace h := (if_neg g13).symm.trans h
      refine dx_iald (pc := 13) hx dX9_firstNight_13 rfl g13 ?_
      refine dx_aload_n (pc := 14) hx dX9_firstNight_14 rfl ?_
      refine dx_getR (r := 59) (pc := 15) hx dX9_firstNight_15 f_X9_19 rfl rfl ?_
      refine dx_iload_n (pc := 18) hx dX9_firstNight_18 rfl ?_
      by_cases g19 : x3 < 0 ∨ 6 ≤ x3.toNatClampNeg
      · cases (if_pos g19).symm.trans h
      replace h := (if_neg g19).symm.trans h
      refine dx_iald (pc := 19) hx dX9_firstNight_19 rfl g19 ?_
      refine dx_aload_n (pc := 20) hx dX9_firstNight_20 rfl ?_
      refine dx_getR (r := 60) (pc := 21) hx dX9_firstNight_21 f_X9_22 rfl rfl ?_
      refine dx_iload_n (pc := 24) hx dX9_firstNight_24 rfl ?_
      by_cases g25 : x3 < 0 ∨ 6 ≤ x3.toNatClampNeg
      · cases (if_pos g25).symm.trans h
      replace h := (if_neg g25).symm.trans h
      refine dx_iald (pc := 25) hx dX9_firstNight_25 rfl g25 ?_
      refine dx_imul (pc := 26) hx dX9_firstNight_26 ?_
      obtain ⟨r27, h27, h⟩ := Option.bind_eq_some_iff.mp h
      refine dx_callSir (pc := 27) (As := [.int (σ.1 57 x1.toNatClampNeg), .int ((σ.1 59 x3.toNatClampNeg) * (σ.1 60 x3.toNatClampNeg))]) (rest := []) hx dX9_firstNight_27 k_X9_233 rfl (dc_le rfl) (dc_le rfl) (dc_le rfl) (dc_le rfl) rfl (th_X9_behindNight h27) ?_
      refine dx_istore (pc := 30) hx dX9_firstNight_30 (dc_le rfl) (ls' := [some (.ref 55), some (.int x1), some (.int x2), some (.int x3), some (.int r27)]) rfl ?_
      refine dx_aload_n (pc := 32) hx dX9_firstNight_32 rfl ?_
      refine dx_iload_n (pc := 33) hx dX9_firstNight_33 rfl ?_
      refine dx_iload_n (pc := 34) hx dX9_firstNight_34 rfl ?_
      obtain ⟨r35, h35, h⟩ := Option.bind_eq_some_iff.mp h
      refine dx_callVir (pc := 35) (As := [.int x3, .int x1]) (rest := []) hx dX9_firstNight_35 k_X9_230 rfl rfl rfl rfl (dc_le rfl) (dc_le rfl) (dc_le rfl) (dc_le rfl) rfl (th_X9_isFor h35) ?_
      refine dx_if_eq (pc := 38) hx dX9_firstNight_38 (tgt := 57) (by decide) (fun c38 => ?_) (fun c38 => ?_)
      · replace h := (if_pos c38).symm.trans h
        refine dx_iinc (pc := 57) hx dX9_firstNight_57 rfl (v := x3 + nI 1) (congrArg (fun z => x3 + z) kc_1) (dc_le rfl) (ls' := [some (.ref 55), some (.int x1), some (.int x2), some (.int (x3 + nI 1)), some (.int r27)]) rfl ?_
        refine dx_goto (pc := 60) hx dX9_firstNight_60 (tgt := 2) (by decide) ?_
        exact dx_wk [true, true, true, true, false] <| (ih (x3 + nI 1) σ q h hk hr)
      · replace h := (if_neg c38).symm.trans h
        refine dx_aload_n (pc := 41) hx dX9_firstNight_41 rfl ?_
        refine dx_iload_n (pc := 42) hx dX9_firstNight_42 rfl ?_
        refine dx_iconst (pc := 43) hx dX9_firstNight_43 kc_1 ?_
        refine dx_iload_n (pc := 44) hx dX9_firstNight_44 rfl ?_
        refine dx_ishl (pc := 45) hx dX9_firstNight_45 ?_
        refine dx_iload (pc := 46) hx dX9_firstNight_46 rfl ?_
        obtain ⟨r48, h48, h⟩ := Option.bind_eq_some_iff.mp h
        refine dx_callViw (pc := 48) (As := [.int x1, .int ((nI 1) <<< (x3 &&& 31)), .int r27]) (rest := []) hx dX9_firstNight_48 k_X9_239 rfl rfl rfl rfl (dc_le rfl) (dc_le rfl) (dc_le rfl) (dc_le rfl) rfl (th_X9_fewestNights h48) ?_
        refine dx_iload_n (pc := 51) hx dX9_firstNight_51 rfl ?_
        refine dx_icmp_ne (pc := 52) hx dX9_firstNight_52 (tgt := 57) (by decide) (fun c52 => ?_) (fun c52 => ?_)
        · replace h := (if_neg c52).symm.trans h
          refine dx_iinc (pc := 57) hx dX9_firstNight_57 rfl (v := x3 + nI 1) (congrArg (fun z => x3 + z) kc_1) (dc_le rfl) (ls' := [some (.ref 55), some (.int x1), some (.int x2), some (.int (x3 + nI 1)), some (.int r27)]) rfl ?_
          refine dx_goto (pc := 60) hx dX9_firstNight_60 (tgt := 2) (by decide) ?_
          exact dx_wk [true, true, true, true, false] <| (ih (x3 + nI 1) r48.2 q h hk hr)
        · replace h := (if_pos c52).symm.trans h
          refine dx_iload_n (pc := 55) hx dX9_firstNight_55 rfl ?_
          obtain rfl := Option.some.inj h
          exact dx_iret hO (pc := 56) dX9_firstNight_56 rfl (hr (x3, r48.2) rfl)
set_option maxHeartbeats 4000000 in
set_option maxRecDepth 100000 in
theorem th_X9_firstNight {σ : dc_HP} {x1 : Int32} {x2 : Int32} {r : Int32 × dc_HP} (h : fn_X9_firstNight σ x1 x2 = some r) : dc_G mX9_firstNight [.ref 55, .int x1, .int x2] σ (dc_qi (fun x τ => x = r.1 ∧ τ = r.2)) := by
  intro κ hO
  have hx : dc_Cx κ RX9 cX9_firstNight 5 3 76 := hO.1
  show dc_X κ 0 [some (.ref 55), some (.int x1), some (.int x2), none, none] [] σ
  unfold fn_X9_firstNight at h
  refine dx_iconst (pc := 0) hx dX9_firstNight_0 kc_0 ?_
  refine dx_istore_n (pc := 1) hx dX9_firstNight_1 (dc_le rfl) (ls' := [some (.ref 55), some (.int x1), some (.int x2), some (.int (nI 0)), none]) rfl ?_
  obtain ⟨q9, h2, h⟩ := Option.bind_eq_some_iff.mp h
  refine (tl_X9_firstNight_L2 hO x1 x2 200 (nI 0) σ q9 h2 (fun q2 e9 => ?_) (fun r9 e9 => ?_))
  rotate_left
  · subst e9
    obtain rfl := Option.some.inj h
    exact ⟨_, rfl, rfl, rfl⟩
  subst e9
  replace h := dc_inr h
  refine dx_bipush (pc := 63) hx dX9_firstNight_63 kb_m6 ?_
  obtain rfl := Option.some.inj h
  exact dx_iret hO (pc := 65) dX9_firstNight_65 rfl ⟨_, rfl, rfl, rfl⟩
set_option maxHeartbeats 4000000 in
set_option maxRecDepth 100000 in
theorem th_X9_nights {σ : dc_HP} {x1 : Int32} {x2 : Int32} {r : Int32 × dc_HP} (h : fn_X9_nights σ x1 x2 = some r) : dc_G mX9_nights [.ref 55, .int x1, .int x2] σ (dc_qi (fun x τ => x = r.1 ∧ τ = r.2)) := by
  intro κ hO
  have hx : dc_Cx κ RX9 cX9_nights 4 4 100 := hO.1
  show dc_X κ 0 [some (.ref 55), some (.int x1), some (.int x2), none] [] σ
  unfold fn_X9_nights at h
  refine dx_aload_n (pc := 0) hx dX9_nights_0 rfl ?_
  refine dx_iload_n (pc := 1) hx dX9_nights_1 rfl ?_
  obtain ⟨r2, h2, h⟩ := Option.bind_eq_some_iff.mp h
  refine dx_callVir (pc := 2) (As := [.int x1]) (rest := []) hx dX9_nights_2 k_X9_99 rfl rfl rfl rfl (dc_le rfl) (dc_le rfl) (dc_le rfl) (dc_le rfl) rfl (th_X9_isSinger h2) ?_
  refine dx_if_ne (pc := 5) hx dX9_nights_5 (tgt := 10) (by decide) (fun c5 => ?_) (fun c5 => ?_)
  · replace h := (if_neg c5).symm.trans h
    refine dx_iload_n (pc := 10) hx dX9_nights_10 rfl ?_
    refine dx_i2l (pc := 11) hx dX9_nights_11 ?_
    refine dx_lconst (pc := 12) hx dX9_nights_12 (v := (0 : Int64)) (by decide) ?_
    refine dx_lconst (pc := 13) hx dX9_nights_13 (v := (1 : Int64)) (by decide) ?_
    obtain ⟨r14, h14, h⟩ := Option.bind_eq_some_iff.mp h
    refine dx_callSir (pc := 14) (As := [.long x2.toInt64, .long ((0 : Int64)), .long ((1 : Int64))]) (rest := []) hx dX9_nights_14 k_X9_77 rfl (dc_le rfl) (dc_le rfl) (dc_le rfl) (dc_le rfl) rfl (th_X9_in h14) ?_
    refine dx_if_ne (pc := 17) hx dX9_nights_17 (tgt := 23) (by decide) (fun c17 => ?_) (fun c17 => ?_)
    · replace h := (if_neg c17).symm.trans h
      refine dx_aload_n (pc := 23) hx dX9_nights_23 rfl ?_
      refine dx_iload_n (pc := 24) hx dX9_nights_24 rfl ?_
      refine dx_iconst (pc := 25) hx dX9_nights_25 kc_0 ?_
      refine dx_aload_n (pc := 26) hx dX9_nights_26 rfl ?_
      refine dx_getR (r := 57) (pc := 27) hx dX9_nights_27 f_X9_13 rfl rfl ?_
      refine dx_iload_n (pc := 30) hx dX9_nights_30 rfl ?_
      by_cases g31 : x1 < 0 ∨ 8 ≤ x1.toNatClampNeg
      · cases (if_pos g31).symm.trans h
      replace h := (if_neg g31).symm.trans h
      refine dx_iald (pc := 31) hx dX9_nights_31 rfl g31 ?_
      obtain ⟨r32, h32, h⟩ := Option.bind_eq_some_iff.mp h
      refine dx_callViw (pc := 32) (As := [.int x1, .int (nI 0), .int (σ.1 57 x1.toNatClampNeg)]) (rest := []) hx dX9_nights_32 k_X9_239 rfl rfl rfl rfl (dc_le rfl) (dc_le rfl) (dc_le rfl) (dc_le rfl) rfl (th_X9_fewestNights h32) ?_
      refine dx_istore_n (pc := 35) hx dX9_nights_35 (dc_le rfl) (ls' := [some (.ref 55), some (.int x1), some (.int x2), some (.int r32.1)]) rfl ?_
      refine dx_iload_n (pc := 36) hx dX9_nights_36 rfl ?_
      refine dx_if_eq (pc := 37) hx dX9_nights_37 (tgt := 44) (by decide) (fun c37 => ?_) (fun c37 => ?_)
      · replace h := (if_pos c37).symm.trans h
        refine dx_iload_n (pc := 44) hx dX9_nights_44 rfl ?_
        refine dx_if_ne (pc := 45) hx dX9_nights_45 (tgt := 52) (by decide) (fun c45 => ?_) (fun c45 => ?_)
        · replace h := (if_neg c45).symm.trans h
          refine dx_bipush (pc := 52) hx dX9_nights_52 kb_m6 ?_
          refine dx_goto (pc := 54) hx dX9_nights_54 (tgt := 63) (by decide) ?_
          obtain rfl := Option.some.inj h
          exact dx_iret hO (pc := 63) dX9_nights_63 rfl ⟨_, rfl, rfl, rfl⟩
        · replace h := (if_pos c45).symm.trans h
          refine dx_iload_n (pc := 48) hx dX9_nights_48 rfl ?_
          refine dx_goto (pc := 49) hx dX9_nights_49 (tgt := 63) (by decide) ?_
          obtain rfl := Option.some.inj h
          exact dx_iret hO (pc := 63) dX9_nights_63 rfl ⟨_, rfl, rfl, rfl⟩
      · replace h := (if_neg c37).symm.trans h
        refine dx_iload_n (pc := 40) hx dX9_nights_40 rfl ?_
        refine dx_if_gt (pc := 41) hx dX9_nights_41 (tgt := 57) (by decide) (fun c41 => ?_) (fun c41 => ?_)
        · replace h := (if_pos c41).symm.trans h
          refine dx_aload_n (pc := 57) hx dX9_nights_57 rfl ?_
          refine dx_iload_n (pc := 58) hx dX9_nights_58 rfl ?_
          refine dx_iload_n (pc := 59) hx dX9_nights_59 rfl ?_
          obtain ⟨r60, h60, h⟩ := Option.bind_eq_some_iff.mp h
          refine dx_callViw (pc := 60) (As := [.int x1, .int r32.1]) (rest := []) hx dX9_nights_60 k_X9_242 rfl rfl rfl rfl (dc_le rfl) (dc_le rfl) (dc_le rfl) (dc_le rfl) rfl (th_X9_firstNight h60) ?_
          obtain rfl := Option.some.inj h
          exact dx_iret hO (pc := 63) dX9_nights_63 rfl ⟨_, rfl, rfl, rfl⟩
        · replace h := (if_neg c41).symm.trans h
          refine dx_iload_n (pc := 44) hx dX9_nights_44 rfl ?_
          refine dx_if_ne (pc := 45) hx dX9_nights_45 (tgt := 52) (by decide) (fun c45 => ?_) (fun c45 => ?_)
          · replace h := (if_neg c45).symm.trans h
            refine dx_bipush (pc := 52) hx dX9_nights_52 kb_m6 ?_
            refine dx_goto (pc := 54) hx dX9_nights_54 (tgt := 63) (by decide) ?_
            obtain rfl := Option.some.inj h
            exact dx_iret hO (pc := 63) dX9_nights_63 rfl ⟨_, rfl, rfl, rfl⟩
          · replace h := (if_pos c45).symm.trans h
            refine dx_iload_n (pc := 48) hx dX9_nights_48 rfl ?_
            refine dx_goto (pc := 49) hx dX9_nights_49 (tgt := 63) (by decide) ?_
            obtain rfl := Option.some.inj h
            exact dx_iret hO (pc := 63) dX9_nights_63 rfl ⟨_, rfl, rfl, rfl⟩
    · replace h := (if_pos c17).symm.trans h
      refine dx_bipush (pc := 20) hx dX9_nights_20 kb_m2 ?_
      obtain rfl := Option.some.inj h
      exact dx_iret hO (pc := 22) dX9_nights_22 rfl ⟨_, rfl, rfl, rfl⟩
  · replace h := (if_pos c5).symm.trans h
    refine dx_iconst (pc := 8) hx dX9_nights_8 kc_m1 ?_
    obtain rfl := Option.some.inj h
    exact dx_iret hO (pc := 9) dX9_nights_9 rfl ⟨_, rfl, rfl, rfl⟩
set_option maxHeartbeats 4000000 in
set_option maxRecDepth 100000 in
theorem tl_X9_barsOf_L4 {κ : dc_KX} {Q : Option Value → dc_HP → Prop} (hO : dc_Ok κ mX9_barsOf Q) (σ : dc_HP) (x1 : Int32) : ∀ (n : Nat) (x2 : Int32) (x3 : Int32) (q : Int32), fn_X9_barsOf_L4 σ x1 n x2 x3 = some q → ∀ (hk : dc_X κ 38 [some (.ref 55), some (.int x1), some (.int q), none] [] σ), dc_X κ 4 [some (.ref 55), some (.int x1), some (.int x2), some (.int x3)] [] σ := by
  have hx : dc_Cx κ RX9 cX9_barsOf 4 0 0 := hO.1
  intro n
  induction n with
  | zero =>
    intro x2 x3 q h
    cases h
  | succ n ih =>
    intro x2 x3 q h hk
    unfold fn_X9_barsOf_L4 at h
    refine dx_iload_n (pc := 4) hx dX9_barsOf_4 rfl ?_
    refine dx_bipush (pc := 5) hx dX9_barsOf_5 kb_6 ?_
    refine dx_icmp_ge (pc := 7) hx dX9_barsOf_7 (tgt := 38) (by decide) (fun c7 => ?_) (fun c7 => ?_)
    · replace h := (if_pos c7).symm.trans h
      obtain rfl := Option.some.inj h
      exact dx_wk [true, true, true, false] <| hk
    · replace h := (if_neg c7).symm.trans h
      refine dx_iload_n (pc := 10) hx dX9_barsOf_10 rfl ?_
      refine dx_iload_n (pc := 11) hx dX9_barsOf_11 rfl ?_
      refine dx_iload_n (pc := 12) hx dX9_barsOf_12 rfl ?_
      refine dx_ishr (pc := 13) hx dX9_barsOf_13 ?_
      refine dx_iconst (pc := 14) hx dX9_barsOf_14 kc_1 ?_
      refine dx_iand (pc := 15) hx dX9_barsOf_15 ?_
      refine dx_iconst (pc := 16) hx dX9_barsOf_16 kc_1 ?_
      refine dx_icmp_ne (pc := 17) hx dX9_barsOf_17 (tgt := 29) (by decide) (fun c17 => ?_) (fun c17 => ?_)
      · replace h := (if_neg c17).symm.trans h
        refine dx_iconst (pc := 29) hx dX9_barsOf_29 kc_0 ?_
        refine dx_iadd (pc := 30) hx dX9_barsOf_30 ?_
        refine dx_istore_n (pc := 31) hx dX9_barsOf_31 (dc_le rfl) (ls' := [some (.ref 55), some (.int x1), some (.int (x2 + (nI 0))), some (.int x3)]) rfl ?_
        refine dx_iinc (pc := 32) hx dX9_barsOf_32 rfl (v := x3 + nI 1) (congrArg (fun z => x3 + z) kc_1) (dc_le rfl) (ls' := [some (.ref 55), some (.int x1), some (.int (x2 + (nI 0))), some (.int (x3 + nI 1))]) rfl ?_
        refine dx_goto (pc := 35) hx dX9_barsOf_35 (tgt := 4) (by decide) ?_
        exact (ih (x2 + (nI 0)) (x3 + nI 1) q h hk)
      · replace h := (if_pos c17).symm.trans h
        refine dx_aload_n (pc := 20) hx dX9_barsOf_20 rfl ?_
        refine dx_getR (r := 59) (pc := 21) hx dX9_barsOf_21 f_X9_19 rfl rfl ?_
        refine dx_iload_n (pc := 24) hx dX9_barsOf_24 rfl ?_
        by_cases g25 : x3 < 0 ∨ 6 ≤ x3.toNatClampNeg
        · cases (if_pos g25).symm.trans h
        replace h := (if_neg g25).symm.trans h
        refine dx_iald (pc := 25) hx dX9_barsOf_25 rfl g25 ?_
        refine dx_goto (pc := 26) hx dX9_barsOf_26 (tgt := 30) (by decide) ?_
        refine dx_iadd (pc := 30) hx dX9_barsOf_30 ?_
        refine dx_istore_n (pc := 31) hx dX9_barsOf_31 (dc_le rfl) (ls' := [some (.ref 55), some (.int x1), some (.int (x2 + (σ.1 59 x3.toNatClampNeg))), some (.int x3)]) rfl ?_
        refine dx_iinc (pc := 32) hx dX9_barsOf_32 rfl (v := x3 + nI 1) (congrArg (fun z => x3 + z) kc_1) (dc_le rfl) (ls' := [some (.ref 55), some (.int x1), some (.int (x2 + (σ.1 59 x3.toNatClampNeg))), some (.int (x3 + nI 1))]) rfl ?_
        refine dx_goto (pc := 35) hx dX9_barsOf_35 (tgt := 4) (by decide) ?_
        exact (ih (x2 + (σ.1 59 x3.toNatClampNeg)) (x3 + nI 1) q h hk)
set_option maxHeartbeats 4000000 in
set_option maxRecDepth 100000 in
theorem th_X9_barsOf {σ : dc_HP} {x1 : Int32} {r : Int32} (h : fn_X9_barsOf σ x1 = some r) : dc_G mX9_barsOf [.ref 55, .int x1] σ (dc_qi (fun x τ => x = r ∧ τ = σ)) := by
  intro κ hO
  have hx : dc_Cx κ RX9 cX9_barsOf 4 0 0 := hO.1
  show dc_X κ 0 [some (.ref 55), some (.int x1), none, none] [] σ
  unfold fn_X9_barsOf at h
  refine dx_iconst (pc := 0) hx dX9_barsOf_0 kc_0 ?_
  refine dx_istore_n (pc := 1) hx dX9_barsOf_1 (dc_le rfl) (ls' := [some (.ref 55), some (.int x1), some (.int (nI 0)), none]) rfl ?_
  refine dx_iconst (pc := 2) hx dX9_barsOf_2 kc_0 ?_
  refine dx_istore_n (pc := 3) hx dX9_barsOf_3 (dc_le rfl) (ls' := [some (.ref 55), some (.int x1), some (.int (nI 0)), some (.int (nI 0))]) rfl ?_
  obtain ⟨q4, h4, h⟩ := Option.bind_eq_some_iff.mp h
  refine (tl_X9_barsOf_L4 hO σ x1 200 (nI 0) (nI 0) q4 h4 ?_)
  refine dx_iload_n (pc := 38) hx dX9_barsOf_38 rfl ?_
  obtain rfl := Option.some.inj h
  exact dx_iret hO (pc := 39) dX9_barsOf_39 rfl ⟨_, rfl, rfl, rfl⟩
set_option maxHeartbeats 4000000 in
set_option maxRecDepth 100000 in
theorem th_X9_needsOf {σ : dc_HP} {x1 : Int32} {r : Int32} (h : fn_X9_needsOf σ x1 = some r) : dc_G mX9_needsOf [.ref 55, .int x1] σ (dc_qi (fun x τ => x = r ∧ τ = σ)) := by
  intro κ hO
  have hx : dc_Cx κ RX9 cX9_needsOf 2 0 0 := hO.1
  show dc_X κ 0 [some (.ref 55), some (.int x1)] [] σ
  unfold fn_X9_needsOf at h
  refine dx_aload_n (pc := 0) hx dX9_needsOf_0 rfl ?_
  refine dx_getR (r := 58) (pc := 1) hx dX9_needsOf_1 f_X9_16 rfl rfl ?_
  refine dx_iconst (pc := 4) hx dX9_needsOf_4 kc_4 ?_
  refine dx_iload_n (pc := 5) hx dX9_needsOf_5 rfl ?_
  refine dx_imul (pc := 6) hx dX9_needsOf_6 ?_
  by_cases g7 : ((nI 4) * x1) < 0 ∨ 24 ≤ ((nI 4) * x1).toNatClampNeg
  · cases (if_pos g7).symm.trans h
  replace h := (if_neg g7).symm.trans h
  refine dx_iald (pc := 7) hx dX9_needsOf_7 rfl g7 ?_
  refine dx_aload_n (pc := 8) hx dX9_needsOf_8 rfl ?_
  refine dx_getR (r := 58) (pc := 9) hx dX9_needsOf_9 f_X9_16 rfl rfl ?_
  refine dx_iconst (pc := 12) hx dX9_needsOf_12 kc_4 ?_
  refine dx_iload_n (pc := 13) hx dX9_needsOf_13 rfl ?_
  refine dx_imul (pc := 14) hx dX9_needsOf_14 ?_
  refine dx_iconst (pc := 15) hx dX9_needsOf_15 kc_1 ?_
  refine dx_iadd (pc := 16) hx dX9_needsOf_16 ?_
  by_cases g17 : (((nI 4) * x1) + (nI 1)) < 0 ∨ 24 ≤ (((nI 4) * x1) + (nI 1)).toNatClampNeg
  · cases (if_pos g17).symm.trans h
  replace h := (if_neg g17).symm.trans h
  refine dx_iald (pc := 17) hx dX9_needsOf_17 rfl g17 ?_
  refine dx_iadd (pc := 18) hx dX9_needsOf_18 ?_
  refine dx_aload_n (pc := 19) hx dX9_needsOf_19 rfl ?_
  refine dx_getR (r := 58) (pc := 20) hx dX9_needsOf_20 f_X9_16 rfl rfl ?_
  refine dx_iconst (pc := 23) hx dX9_needsOf_23 kc_4 ?_
  refine dx_iload_n (pc := 24) hx dX9_needsOf_24 rfl ?_
  refine dx_imul (pc := 25) hx dX9_needsOf_25 ?_
  refine dx_iconst (pc := 26) hx dX9_needsOf_26 kc_2 ?_
  refine dx_iadd (pc := 27) hx dX9_needsOf_27 ?_
  by_cases g28 : (((nI 4) * x1) + (nI 2)) < 0 ∨ 24 ≤ (((nI 4) * x1) + (nI 2)).toNatClampNeg
  · cases (if_pos g28).symm.trans h
  replace h := (if_neg g28).symm.trans h
  refine dx_iald (pc := 28) hx dX9_needsOf_28 rfl g28 ?_
  refine dx_iadd (pc := 29) hx dX9_needsOf_29 ?_
  refine dx_aload_n (pc := 30) hx dX9_needsOf_30 rfl ?_
  refine dx_getR (r := 58) (pc := 31) hx dX9_needsOf_31 f_X9_16 rfl rfl ?_
  refine dx_iconst (pc := 34) hx dX9_needsOf_34 kc_4 ?_
  refine dx_iload_n (pc := 35) hx dX9_needsOf_35 rfl ?_
  refine dx_imul (pc := 36) hx dX9_needsOf_36 ?_
  refine dx_iconst (pc := 37) hx dX9_needsOf_37 kc_3 ?_
  refine dx_iadd (pc := 38) hx dX9_needsOf_38 ?_
  by_cases g39 : (((nI 4) * x1) + (nI 3)) < 0 ∨ 24 ≤ (((nI 4) * x1) + (nI 3)).toNatClampNeg
  · cases (if_pos g39).symm.trans h
  replace h := (if_neg g39).symm.trans h
  refine dx_iald (pc := 39) hx dX9_needsOf_39 rfl g39 ?_
  refine dx_iadd (pc := 40) hx dX9_needsOf_40 ?_
  obtain rfl := Option.some.inj h
  exact dx_iret hO (pc := 41) dX9_needsOf_41 rfl ⟨_, rfl, rfl, rfl⟩
set_option maxHeartbeats 4000000 in
set_option maxRecDepth 100000 in
theorem tl_X9_paysOf_L4 {κ : dc_KX} {Q : Option Value → dc_HP → Prop} (hO : dc_Ok κ mX9_paysOf Q) (σ : dc_HP) (x1 : Int32) : ∀ (n : Nat) (x2 : Int32) (x3 : Int32) (q : Int32), fn_X9_paysOf_L4 σ x1 n x2 x3 = some q → ∀ (hk : dc_X κ 51 [some (.ref 55), some (.int x1), some (.int q), none] [] σ), dc_X κ 4 [some (.ref 55), some (.int x1), some (.int x2), some (.int x3)] [] σ := by
  have hx : dc_Cx κ RX9 cX9_paysOf 4 1 21 := hO.1
  intro n
  induction n with
  | zero =>
    intro x2 x3 q h
    cases h
  | succ n ih =>
    intro x2 x3 q h hk
    unfold fn_X9_paysOf_L4 at h
    refine dx_iload_n (pc := 4) hx dX9_paysOf_4 rfl ?_
    refine dx_bipush (pc := 5) hx dX9_paysOf_5 kb_6 ?_
    refine dx_icmp_ge (pc := 7) hx dX9_paysOf_7 (tgt := 51) (by decide) (fun c7 => ?_) (fun c7 => ?_)
    · replace h := (if_pos c7).symm.trans h
      obtain rfl := Option.some.inj h
      exact dx_wk [true, true, true, false] <| hk
    · replace h := (if_neg c7).symm.trans h
      refine dx_iload_n (pc := 10) hx dX9_paysOf_10 rfl ?_
      refine dx_iload_n (pc := 11) hx dX9_paysOf_11 rfl ?_
      refine dx_iload_n (pc := 12) hx dX9_paysOf_12 rfl ?_
      refine dx_ishr (pc := 13) hx dX9_paysOf_13 ?_
      refine dx_iconst (pc := 14) hx dX9_paysOf_14 kc_1 ?_
      refine dx_iand (pc := 15) hx dX9_paysOf_15 ?_
      refine dx_iconst (pc := 16) hx dX9_paysOf_16 kc_1 ?_
      refine dx_icmp_ne (pc := 17) hx dX9_paysOf_17 (tgt := 42) (by decide) (fun c17 => ?_) (fun c17 => ?_)
      · replace h := (if_neg c17).symm.trans h
        refine dx_iconst (pc := 42) hx dX9_paysOf_42 kc_0 ?_
        refine dx_iadd (pc := 43) hx dX9_paysOf_43 ?_
        refine dx_istore_n (pc := 44) hx dX9_paysOf_44 (dc_le rfl) (ls' := [some (.ref 55), some (.int x1), some (.int (x2 + (nI 0))), some (.int x3)]) rfl ?_
        refine dx_iinc (pc := 45) hx dX9_paysOf_45 rfl (v := x3 + nI 1) (congrArg (fun z => x3 + z) kc_1) (dc_le rfl) (ls' := [some (.ref 55), some (.int x1), some (.int (x2 + (nI 0))), some (.int (x3 + nI 1))]) rfl ?_
        refine dx_goto (pc := 48) hx dX9_paysOf_48 (tgt := 4) (by decide) ?_
        exact (ih (x2 + (nI 0)) (x3 + nI 1) q h hk)
      · replace h := (if_pos c17).symm.trans h
        refine dx_aload_n (pc := 20) hx dX9_paysOf_20 rfl ?_
        refine dx_getR (r := 59) (pc := 21) hx dX9_paysOf_21 f_X9_19 rfl rfl ?_
        refine dx_iload_n (pc := 24) hx dX9_paysOf_24 rfl ?_
        by_cases g25 : x3 < 0 ∨ 6 ≤ x3.toNatClampNeg
        · cases (if_pos g25).symm.trans h
        replace h := (if_neg g25).symm.trans h
        refine dx_iald (pc := 25) hx dX9_paysOf_25 rfl g25 ?_
        refine dx_aload_n (pc := 26) hx dX9_paysOf_26 rfl ?_
        refine dx_getR (r := 60) (pc := 27) hx dX9_paysOf_27 f_X9_22 rfl rfl ?_
        refine dx_iload_n (pc := 30) hx dX9_paysOf_30 rfl ?_
        by_cases g31 : x3 < 0 ∨ 6 ≤ x3.toNatClampNeg
        · cases (if_pos g31).symm.trans h
        replace h := (if_neg g31).symm.trans h
        refine dx_iald (pc := 31) hx dX9_paysOf_31 rfl g31 ?_
        refine dx_imul (pc := 32) hx dX9_paysOf_32 ?_
        refine dx_aload_n (pc := 33) hx dX9_paysOf_33 rfl ?_
        refine dx_iload_n (pc := 34) hx dX9_paysOf_34 rfl ?_
        obtain ⟨r35, h35, h⟩ := Option.bind_eq_some_iff.mp h
        refine dx_callVir (pc := 35) (As := [.int x3]) (rest := [.int ((σ.1 59 x3.toNatClampNeg) * (σ.1 60 x3.toNatClampNeg)), .int x2]) hx dX9_paysOf_35 k_X9_245 rfl rfl rfl rfl (dc_le rfl) (dc_le rfl) (dc_le rfl) (dc_le rfl) rfl (th_X9_needsOf h35) ?_
        refine dx_imul (pc := 38) hx dX9_paysOf_38 ?_
        refine dx_goto (pc := 39) hx dX9_paysOf_39 (tgt := 43) (by decide) ?_
        refine dx_iadd (pc := 43) hx dX9_paysOf_43 ?_
        refine dx_istore_n (pc := 44) hx dX9_paysOf_44 (dc_le rfl) (ls' := [some (.ref 55), some (.int x1), some (.int (x2 + (((σ.1 59 x3.toNatClampNeg) * (σ.1 60 x3.toNatClampNeg)) * r35))), some (.int x3)]) rfl ?_
        refine dx_iinc (pc := 45) hx dX9_paysOf_45 rfl (v := x3 + nI 1) (congrArg (fun z => x3 + z) kc_1) (dc_le rfl) (ls' := [some (.ref 55), some (.int x1), some (.int (x2 + (((σ.1 59 x3.toNatClampNeg) * (σ.1 60 x3.toNatClampNeg)) * r35))), some (.int (x3 + nI 1))]) rfl ?_
        refine dx_goto (pc := 48) hx dX9_paysOf_48 (tgt := 4) (by decide) ?_
        exact (ih (x2 + (((σ.1 59 x3.toNatClampNeg) * (σ.1 60 x3.toNatClampNeg)) * r35)) (x3 + nI 1) q h hk)
set_option maxHeartbeats 4000000 in
set_option maxRecDepth 100000 in
theorem th_X9_paysOf {σ : dc_HP} {x1 : Int32} {r : Int32} (h : fn_X9_paysOf σ x1 = some r) : dc_G mX9_paysOf [.ref 55, .int x1] σ (dc_qi (fun x τ => x = r ∧ τ = σ)) := by
  intro κ hO
  have hx : dc_Cx κ RX9 cX9_paysOf 4 1 21 := hO.1
  show dc_X κ 0 [some (.ref 55), some (.int x1), none, none] [] σ
  unfold fn_X9_paysOf at h
  refine dx_iconst (pc := 0) hx dX9_paysOf_0 kc_0 ?_
  refine dx_istore_n (pc := 1) hx dX9_paysOf_1 (dc_le rfl) (ls' := [some (.ref 55), some (.int x1), some (.int (nI 0)), none]) rfl ?_
  refine dx_iconst (pc := 2) hx dX9_paysOf_2 kc_0 ?_
  refine dx_istore_n (pc := 3) hx dX9_paysOf_3 (dc_le rfl) (ls' := [some (.ref 55), some (.int x1), some (.int (nI 0)), some (.int (nI 0))]) rfl ?_
  obtain ⟨q4, h4, h⟩ := Option.bind_eq_some_iff.mp h
  refine (tl_X9_paysOf_L4 hO σ x1 200 (nI 0) (nI 0) q4 h4 ?_)
  refine dx_iload_n (pc := 51) hx dX9_paysOf_51 rfl ?_
  obtain rfl := Option.some.inj h
  exact dx_iret hO (pc := 52) dX9_paysOf_52 rfl ⟨_, rfl, rfl, rfl⟩
set_option maxHeartbeats 4000000 in
set_option maxRecDepth 100000 in
theorem tl_X9_programme_L30 {κ : dc_KX} {Q : Option Value → dc_HP → Prop} (hO : dc_Ok κ mX9_programme Q) (σ : dc_HP) (x1 : Int32) (x2 : Int32) : ∀ (n : Nat) (x3 : Int32) (x4 : Int32) (q : Int32), fn_X9_programme_L30 σ x1 x2 n x3 x4 = some q → ∀ (hk : dc_X κ 74 [some (.ref 55), some (.int x1), some (.int x2), some (.int q), none] [] σ), dc_X κ 30 [some (.ref 55), some (.int x1), some (.int x2), some (.int x3), some (.int x4)] [] σ := by
  have hx : dc_Cx κ RX9 cX9_programme 5 2 44 := hO.1
  intro n
  induction n with
  | zero =>
    intro x3 x4 q h
    cases h
  | succ n ih =>
    intro x3 x4 q h hk
    unfold fn_X9_programme_L30 at h
    refine dx_iload (pc := 30) hx dX9_programme_30 rfl ?_
    refine dx_bipush (pc := 32) hx dX9_programme_32 kb_64 ?_
    refine dx_icmp_ge (pc := 34) hx dX9_programme_34 (tgt := 74) (by decide) (fun c34 => ?_) (fun c34 => ?_)
    · replace h := (if_pos c34).symm.trans h
      obtain rfl := Option.some.inj h
      exact dx_wk [true, true, true, true, false] <| hk
    · replace h := (if_neg c34).symm.trans h
      refine dx_aload_n (pc := 37) hx dX9_programme_37 rfl ?_
      refine dx_iload (pc := 38) hx dX9_programme_38 rfl ?_
      obtain ⟨r40, h40, h⟩ := Option.bind_eq_some_iff.mp h
      refine dx_callVir (pc := 40) (As := [.int x4]) (rest := []) hx dX9_programme_40 k_X9_250 rfl rfl rfl rfl (dc_le rfl) (dc_le rfl) (dc_le rfl) (dc_le rfl) rfl (th_X9_barsOf h40) ?_
      refine dx_iload_n (pc := 43) hx dX9_programme_43 rfl ?_
      refine dx_icmp_gt (pc := 44) hx dX9_programme_44 (tgt := 66) (by decide) (fun c44 => ?_) (fun c44 => ?_)
      · replace h := (if_pos c44).symm.trans h
        refine dx_iload_n (pc := 66) hx dX9_programme_66 rfl ?_
        refine dx_istore_n (pc := 67) hx dX9_programme_67 (dc_le rfl) (ls' := [some (.ref 55), some (.int x1), some (.int x2), some (.int x3), some (.int x4)]) rfl ?_
        refine dx_iinc (pc := 68) hx dX9_programme_68 rfl (v := x4 + nI 1) (congrArg (fun z => x4 + z) kc_1) (dc_le rfl) (ls' := [some (.ref 55), some (.int x1), some (.int x2), some (.int x3), some (.int (x4 + nI 1))]) rfl ?_
        refine dx_goto (pc := 71) hx dX9_programme_71 (tgt := 30) (by decide) ?_
        exact (ih x3 (x4 + nI 1) q h hk)
      · replace h := (if_neg c44).symm.trans h
        refine dx_aload_n (pc := 47) hx dX9_programme_47 rfl ?_
        refine dx_iload (pc := 48) hx dX9_programme_48 rfl ?_
        obtain ⟨r50, h50, h⟩ := Option.bind_eq_some_iff.mp h
        refine dx_callVir (pc := 50) (As := [.int x4]) (rest := []) hx dX9_programme_50 k_X9_253 rfl rfl rfl rfl (dc_le rfl) (dc_le rfl) (dc_le rfl) (dc_le rfl) rfl (th_X9_paysOf h50) ?_
        refine dx_aload_n (pc := 53) hx dX9_programme_53 rfl ?_
        refine dx_iload_n (pc := 54) hx dX9_programme_54 rfl ?_
        obtain ⟨r55, h55, h⟩ := Option.bind_eq_some_iff.mp h
        refine dx_callVir (pc := 55) (As := [.int x3]) (rest := [.int r50]) hx dX9_programme_55 k_X9_253 rfl rfl rfl rfl (dc_le rfl) (dc_le rfl) (dc_le rfl) (dc_le rfl) rfl (th_X9_paysOf h55) ?_
        refine dx_icmp_le (pc := 58) hx dX9_programme_58 (tgt := 66) (by decide) (fun c58 => ?_) (fun c58 => ?_)
        · replace h := (if_pos c58).symm.trans h
          refine dx_iload_n (pc := 66) hx dX9_programme_66 rfl ?_
          refine dx_istore_n (pc := 67) hx dX9_programme_67 (dc_le rfl) (ls' := [some (.ref 55), some (.int x1), some (.int x2), some (.int x3), some (.int x4)]) rfl ?_
          refine dx_iinc (pc := 68) hx dX9_programme_68 rfl (v := x4 + nI 1) (congrArg (fun z => x4 + z) kc_1) (dc_le rfl) (ls' := [some (.ref 55), some (.int x1), some (.int x2), some (.int x3), some (.int (x4 + nI 1))]) rfl ?_
          refine dx_goto (pc := 71) hx dX9_programme_71 (tgt := 30) (by decide) ?_
          exact (ih x3 (x4 + nI 1) q h hk)
        · replace h := (if_neg c58).symm.trans h
          refine dx_iload (pc := 61) hx dX9_programme_61 rfl ?_
          refine dx_goto (pc := 63) hx dX9_programme_63 (tgt := 67) (by decide) ?_
          refine dx_istore_n (pc := 67) hx dX9_programme_67 (dc_le rfl) (ls' := [some (.ref 55), some (.int x1), some (.int x2), some (.int x4), some (.int x4)]) rfl ?_
          refine dx_iinc (pc := 68) hx dX9_programme_68 rfl (v := x4 + nI 1) (congrArg (fun z => x4 + z) kc_1) (dc_le rfl) (ls' := [some (.ref 55), some (.int x1), some (.int x2), some (.int x4), some (.int (x4 + nI 1))]) rfl ?_
          refine dx_goto (pc := 71) hx dX9_programme_71 (tgt := 30) (by decide) ?_
          exact (ih x4 (x4 + nI 1) q h hk)
set_option maxHeartbeats 4000000 in
set_option maxRecDepth 100000 in
theorem th_X9_programme {σ : dc_HP} {x1 : Int32} {x2 : Int32} {r : Int32} (h : fn_X9_programme σ x1 x2 = some r) : dc_G mX9_programme [.ref 55, .int x1, .int x2] σ (dc_qi (fun x τ => x = r ∧ τ = σ)) := by
  intro κ hO
  have hx : dc_Cx κ RX9 cX9_programme 5 2 44 := hO.1
  show dc_X κ 0 [some (.ref 55), some (.int x1), some (.int x2), none, none] [] σ
  unfold fn_X9_programme at h
  refine dx_iload_n (pc := 0) hx dX9_programme_0 rfl ?_
  refine dx_i2l (pc := 1) hx dX9_programme_1 ?_
  refine dx_lconst (pc := 2) hx dX9_programme_2 (v := (0 : Int64)) (by decide) ?_
  refine dx_ldc2 (pc := 3) hx dX9_programme_3 f_X9_248 ?_
  obtain ⟨r6, h6, h⟩ := Option.bind_eq_some_iff.mp h
  refine dx_callSir (pc := 6) (As := [.long x1.toInt64, .long ((0 : Int64)), .long ((99 : Int64))]) (rest := []) hx dX9_programme_6 k_X9_77 rfl (dc_le rfl) (dc_le rfl) (dc_le rfl) (dc_le rfl) rfl (th_X9_in h6) ?_
  refine dx_if_eq (pc := 9) hx dX9_programme_9 (tgt := 22) (by decide) (fun c9 => ?_) (fun c9 => ?_)
  · replace h := (if_pos c9).symm.trans h
    refine dx_bipush (pc := 22) hx dX9_programme_22 kb_m2 ?_
    obtain rfl := Option.some.inj h
    exact dx_iret hO (pc := 24) dX9_programme_24 rfl ⟨_, rfl, rfl, rfl⟩
  · replace h := (if_neg c9).symm.trans h
    refine dx_iload_n (pc := 12) hx dX9_programme_12 rfl ?_
    refine dx_i2l (pc := 13) hx dX9_programme_13 ?_
    refine dx_lconst (pc := 14) hx dX9_programme_14 (v := (0 : Int64)) (by decide) ?_
    refine dx_lconst (pc := 15) hx dX9_programme_15 (v := (1 : Int64)) (by decide) ?_
    obtain ⟨r16, h16, h⟩ := Option.bind_eq_some_iff.mp h
    refine dx_callSir (pc := 16) (As := [.long x2.toInt64, .long ((0 : Int64)), .long ((1 : Int64))]) (rest := []) hx dX9_programme_16 k_X9_77 rfl (dc_le rfl) (dc_le rfl) (dc_le rfl) (dc_le rfl) rfl (th_X9_in h16) ?_
    refine dx_if_ne (pc := 19) hx dX9_programme_19 (tgt := 25) (by decide) (fun c19 => ?_) (fun c19 => ?_)
    · replace h := (if_neg c19).symm.trans h
      refine dx_iconst (pc := 25) hx dX9_programme_25 kc_0 ?_
      refine dx_istore_n (pc := 26) hx dX9_programme_26 (dc_le rfl) (ls' := [some (.ref 55), some (.int x1), some (.int x2), some (.int (nI 0)), none]) rfl ?_
      refine dx_iconst (pc := 27) hx dX9_programme_27 kc_1 ?_
      refine dx_istore (pc := 28) hx dX9_programme_28 (dc_le rfl) (ls' := [some (.ref 55), some (.int x1), some (.int x2), some (.int (nI 0)), some (.int (nI 1))]) rfl ?_
      obtain ⟨q30, h30, h⟩ := Option.bind_eq_some_iff.mp h
      refine (tl_X9_programme_L30 hO σ x1 x2 200 (nI 0) (nI 1) q30 h30 ?_)
      refine dx_iload_n (pc := 74) hx dX9_programme_74 rfl ?_
      refine dx_if_ne (pc := 75) hx dX9_programme_75 (tgt := 86) (by decide) (fun c75 => ?_) (fun c75 => ?_)
      · replace h := (if_neg c75).symm.trans h
        refine dx_iload_n (pc := 86) hx dX9_programme_86 rfl ?_
        obtain rfl := Option.some.inj h
        exact dx_iret hO (pc := 87) dX9_programme_87 rfl ⟨_, rfl, rfl, rfl⟩
      · replace h := (if_pos c75).symm.trans h
        refine dx_aload_n (pc := 78) hx dX9_programme_78 rfl ?_
        refine dx_iload_n (pc := 79) hx dX9_programme_79 rfl ?_
        obtain ⟨r80, h80, h⟩ := Option.bind_eq_some_iff.mp h
        refine dx_callVir (pc := 80) (As := [.int q30]) (rest := []) hx dX9_programme_80 k_X9_253 rfl rfl rfl rfl (dc_le rfl) (dc_le rfl) (dc_le rfl) (dc_le rfl) rfl (th_X9_paysOf h80) ?_
        refine dx_goto (pc := 83) hx dX9_programme_83 (tgt := 87) (by decide) ?_
        obtain rfl := Option.some.inj h
        exact dx_iret hO (pc := 87) dX9_programme_87 rfl ⟨_, rfl, rfl, rfl⟩
    · replace h := (if_pos c19).symm.trans h
      refine dx_bipush (pc := 22) hx dX9_programme_22 kb_m2 ?_
      obtain rfl := Option.some.inj h
      exact dx_iret hO (pc := 24) dX9_programme_24 rfl ⟨_, rfl, rfl, rfl⟩
set_option maxHeartbeats 4000000 in
set_option maxRecDepth 100000 in
theorem tl_X9_ruined_L8 {κ : dc_KX} {Q : Option Value → dc_HP → Prop} (hO : dc_Ok κ mX9_ruined Q) (σ : dc_HP) (x1 : Int32) : ∀ (n : Nat) (x3 : Int32) (x4 : Int32) (x5 : Int32) (q : Int32 × Int32), fn_X9_ruined_L8 σ x1 n x3 x4 x5 = some q → ∀ (hk : dc_X κ 56 [some (.ref 55), some (.int x1), none, some (.int q.1), some (.int q.2), none] [] σ), dc_X κ 8 [some (.ref 55), some (.int x1), none, some (.int x3), some (.int x4), some (.int x5)] [] σ := by
  have hx : dc_Cx κ RX9 cX9_ruined 6 3 68 := hO.1
  intro n
  induction n with
  | zero =>
    intro x3 x4 x5 q h
    cases h
  | succ n ih =>
    intro x3 x4 x5 q h hk
    unfold fn_X9_ruined_L8 at h
    refine dx_iload (pc := 8) hx dX9_ruined_8 rfl ?_
    refine dx_bipush (pc := 10) hx dX9_ruined_10 kb_8 ?_
    refine dx_icmp_ge (pc := 12) hx dX9_ruined_12 (tgt := 56) (by decide) (fun c12 => ?_) (fun c12 => ?_)
    · replace h := (if_pos c12).symm.trans h
      obtain rfl := Option.some.inj h
      exact dx_wk [true, true, true, true, true, false] <| hk
    · replace h := (if_neg c12).symm.trans h
      refine dx_iload (pc := 15) hx dX9_ruined_15 rfl ?_
      refine dx_if_le (pc := 17) hx dX9_ruined_17 (tgt := 56) (by decide) (fun c17 => ?_) (fun c17 => ?_)
      · replace h := (if_pos c17).symm.trans h
        obtain rfl := Option.some.inj h
        exact dx_wk [true, true, true, true, true, false] <| hk
      · replace h := (if_neg c17).symm.trans h
        refine dx_aload_n (pc := 20) hx dX9_ruined_20 rfl ?_
        refine dx_iload (pc := 21) hx dX9_ruined_21 rfl ?_
        refine dx_iload_n (pc := 23) hx dX9_ruined_23 rfl ?_
        obtain ⟨r24, h24, h⟩ := Option.bind_eq_some_iff.mp h
        refine dx_callVir (pc := 24) (As := [.int x5, .int x1]) (rest := []) hx dX9_ruined_24 k_X9_146 rfl rfl rfl rfl (dc_le rfl) (dc_le rfl) (dc_le rfl) (dc_le rfl) rfl (th_X9_mayHere h24) ?_
        refine dx_if_eq (pc := 27) hx dX9_ruined_27 (tgt := 50) (by decide) (fun c27 => ?_) (fun c27 => ?_)
        · replace h := (if_pos c27).symm.trans h
          refine dx_iinc (pc := 50) hx dX9_ruined_50 rfl (v := x5 + nI 1) (congrArg (fun z => x5 + z) kc_1) (dc_le rfl) (ls' := [some (.ref 55), some (.int x1), none, some (.int x3), some (.int x4), some (.int (x5 + nI 1))]) rfl ?_
          refine dx_goto (pc := 53) hx dX9_ruined_53 (tgt := 8) (by decide) ?_
          exact (ih x3 x4 (x5 + nI 1) q h hk)
        · replace h := (if_neg c27).symm.trans h
          refine dx_aload_n (pc := 30) hx dX9_ruined_30 rfl ?_
          refine dx_getR (r := 57) (pc := 31) hx dX9_ruined_31 f_X9_13 rfl rfl ?_
          refine dx_iload (pc := 34) hx dX9_ruined_34 rfl ?_
          by_cases g36 : x5 < 0 ∨ 8 ≤ x5.toNatClampNeg
          · cases (if_pos g36).symm.trans h
          replace h := (if_neg g36).symm.trans h
          refine dx_iald (pc := 36) hx dX9_ruined_36 rfl g36 ?_
          refine dx_if_ne (pc := 37) hx dX9_ruined_37 (tgt := 50) (by decide) (fun c37 => ?_) (fun c37 => ?_)
          · replace h := (if_neg c37).symm.trans h
            refine dx_iinc (pc := 50) hx dX9_ruined_50 rfl (v := x5 + nI 1) (congrArg (fun z => x5 + z) kc_1) (dc_le rfl) (ls' := [some (.ref 55), some (.int x1), none, some (.int x3), some (.int x4), some (.int (x5 + nI 1))]) rfl ?_
            refine dx_goto (pc := 53) hx dX9_ruined_53 (tgt := 8) (by decide) ?_
            exact (ih x3 x4 (x5 + nI 1) q h hk)
          · replace h := (if_pos c37).symm.trans h
            refine dx_iload_n (pc := 40) hx dX9_ruined_40 rfl ?_
            refine dx_iconst (pc := 41) hx dX9_ruined_41 kc_1 ?_
            refine dx_iload (pc := 42) hx dX9_ruined_42 rfl ?_
            refine dx_ishl (pc := 44) hx dX9_ruined_44 ?_
            refine dx_ior (pc := 45) hx dX9_ruined_45 ?_
            refine dx_istore_n (pc := 46) hx dX9_ruined_46 (dc_le rfl) (ls' := [some (.ref 55), some (.int x1), none, some (.int (x3 ||| ((nI 1) <<< (x5 &&& 31)))), some (.int x4), some (.int x5)]) rfl ?_
            refine dx_iinc (pc := 47) hx dX9_ruined_47 rfl (v := x4 + (-1 : Int32)) (congrArg (fun z => x4 + z) kc_m1) (dc_le rfl) (ls' := [some (.ref 55), some (.int x1), none, some (.int (x3 ||| ((nI 1) <<< (x5 &&& 31)))), some (.int (x4 + (-1 : Int32))), some (.int x5)]) rfl ?_
            refine dx_iinc (pc := 50) hx dX9_ruined_50 rfl (v := x5 + nI 1) (congrArg (fun z => x5 + z) kc_1) (dc_le rfl) (ls' := [some (.ref 55), some (.int x1), none, some (.int (x3 ||| ((nI 1) <<< (x5 &&& 31)))), some (.int (x4 + (-1 : Int32))), some (.int (x5 + nI 1))]) rfl ?_
            refine dx_goto (pc := 53) hx dX9_ruined_53 (tgt := 8) (by decide) ?_
            exact (ih (x3 ||| ((nI 1) <<< (x5 &&& 31))) (x4 + (-1 : Int32)) (x5 + nI 1) q h hk)
set_option maxHeartbeats 4000000 in
set_option maxRecDepth 100000 in
theorem th_X9_ruined {σ : dc_HP} {x1 : Int32} {x2 : Int32} {r : Int32} (h : fn_X9_ruined σ x1 x2 = some r) : dc_G mX9_ruined [.ref 55, .int x1, .int x2] σ (dc_qi (fun x τ => x = r ∧ τ = σ)) := by
  intro κ hO
  have hx : dc_Cx κ RX9 cX9_ruined 6 3 68 := hO.1
  show dc_X κ 0 [some (.ref 55), some (.int x1), some (.int x2), none, none, none] [] σ
  unfold fn_X9_ruined at h
  refine dx_iconst (pc := 0) hx dX9_ruined_0 kc_0 ?_
  refine dx_istore_n (pc := 1) hx dX9_ruined_1 (dc_le rfl) (ls' := [some (.ref 55), some (.int x1), some (.int x2), some (.int (nI 0)), none, none]) rfl ?_
  refine dx_iload_n (pc := 2) hx dX9_ruined_2 rfl ?_
  refine dx_istore (pc := 3) hx dX9_ruined_3 (dc_le rfl) (ls' := [some (.ref 55), some (.int x1), some (.int x2), some (.int (nI 0)), some (.int x2), none]) rfl ?_
  refine dx_iconst (pc := 5) hx dX9_ruined_5 kc_0 ?_
  refine dx_istore (pc := 6) hx dX9_ruined_6 (dc_le rfl) (ls' := [some (.ref 55), some (.int x1), some (.int x2), some (.int (nI 0)), some (.int x2), some (.int (nI 0))]) rfl ?_
  obtain ⟨q8, h8, h⟩ := Option.bind_eq_some_iff.mp h
  refine dx_wk [true, true, false, true, true, true] <| (tl_X9_ruined_L8 hO σ x1 200 (nI 0) x2 (nI 0) q8 h8 ?_)
  refine dx_iload (pc := 56) hx dX9_ruined_56 rfl ?_
  refine dx_if_le (pc := 58) hx dX9_ruined_58 (tgt := 66) (by decide) (fun c58 => ?_) (fun c58 => ?_)
  · replace h := (if_pos c58).symm.trans h
    refine dx_iload_n (pc := 66) hx dX9_ruined_66 rfl ?_
    obtain rfl := Option.some.inj h
    exact dx_iret hO (pc := 67) dX9_ruined_67 rfl ⟨_, rfl, rfl, rfl⟩
  · replace h := (if_neg c58).symm.trans h
    refine dx_bipush (pc := 61) hx dX9_ruined_61 kb_m6 ?_
    refine dx_goto (pc := 63) hx dX9_ruined_63 (tgt := 67) (by decide) ?_
    obtain rfl := Option.some.inj h
    exact dx_iret hO (pc := 67) dX9_ruined_67 rfl ⟨_, rfl, rfl, rfl⟩
set_option maxHeartbeats 4000000 in
set_option maxRecDepth 100000 in
theorem tl_X9_ruin_L32 {κ : dc_KX} {Q : Option Value → dc_HP → Prop} (hO : dc_Ok κ mX9_ruin Q) (σ : dc_HP) (x1 : Int32) (x2 : Int32) : ∀ (n : Nat) (x3 : Int32) (x4 : Int32) (q : (Int32) ⊕ (Int32)), fn_X9_ruin_L32 σ x1 x2 n x3 x4 = some q → ∀ (hk : ∀ m : Int32, q = .inr m → dc_X κ 84 [some (.ref 55), some (.int x1), some (.int x2), some (.int m), none, none] [] σ) (hr : ∀ r : Int32, q = .inl r → Q (some (.int r)) σ), dc_X κ 32 [some (.ref 55), some (.int x1), some (.int x2), some (.int x3), some (.int x4), none] [] σ := by
  have hx : dc_Cx κ RX9 cX9_ruin 6 4 93 := hO.1
  intro n
  induction n with
  | zero =>
    intro x3 x4 q h
    cases h
  | succ n ih =>
    intro x3 x4 q h hk hr
    unfold fn_X9_ruin_L32 at h
    refine dx_iload (pc := 32) hx dX9_ruin_32 rfl ?_
    refine dx_iconst (pc := 34) hx dX9_ruin_34 kc_4 ?_
    refine dx_icmp_ge (pc := 35) hx dX9_ruin_35 (tgt := 84) (by decide) (fun c35 => ?_) (fun c35 => ?_)
    · replace h := (if_pos c35).symm.trans h
      obtain rfl := Option.some.inj h
      exact dx_wk [true, true, true, true, false, true] <| (hk x3 rfl)
    · replace h := (if_neg c35).symm.trans h
      refine dx_aload_n (pc := 38) hx dX9_ruin_38 rfl ?_
      refine dx_iload (pc := 39) hx dX9_ruin_39 rfl ?_
      refine dx_aload_n (pc := 41) hx dX9_ruin_41 rfl ?_
      refine dx_getR (r := 58) (pc := 42) hx dX9_ruin_42 f_X9_16 rfl rfl ?_
      refine dx_iconst (pc := 45) hx dX9_ruin_45 kc_4 ?_
      refine dx_iload_n (pc := 46) hx dX9_ruin_46 rfl ?_
      refine dx_imul (pc := 47) hx dX9_ruin_47 ?_
      refine dx_iload (pc := 48) hx dX9_ruin_48 rfl ?_
      refine dx_iadd (pc := 50) hx dX9_ruin_50 ?_
      by_cases g51 : (((nI 4) * x1) + x4) < 0 ∨ 24 ≤ (((nI 4) * x1) + x4).toNatClampNeg
      · cases (if_pos g51).symm.trans h
      replace h := (if_neg g51).symm.trans h
      refine dx_iald (pc := 51) hx dX9_ruin_51 rfl g51 ?_
      refine dx_aload_n (pc := 52) hx dX9_ruin_52 rfl ?_
      refine dx_iload (pc := 53) hx dX9_ruin_53 rfl ?_
      refine dx_iconst (pc := 55) hx dX9_ruin_55 kc_1 ?_
      obtain ⟨r56, h56, h⟩ := Option.bind_eq_some_iff.mp h
      refine dx_callVir (pc := 56) (As := [.int x4, .int (nI 1)]) (rest := [.int (σ.1 58 (((nI 4) * x1) + x4).toNatClampNeg), .int x4, .ref 55]) hx dX9_ruin_56 k_X9_150 rfl rfl rfl rfl (dc_le rfl) (dc_le rfl) (dc_le rfl) (dc_le rfl) rfl (th_X9_ready h56) ?_
      refine dx_isub (pc := 59) hx dX9_ruin_59 ?_
      obtain ⟨r60, h60, h⟩ := Option.bind_eq_some_iff.mp h
      refine dx_callVir (pc := 60) (As := [.int x4, .int ((σ.1 58 (((nI 4) * x1) + x4).toNatClampNeg) - r56)]) (rest := []) hx dX9_ruin_60 k_X9_256 rfl rfl rfl rfl (dc_le rfl) (dc_le rfl) (dc_le rfl) (dc_le rfl) rfl (th_X9_ruined h60) ?_
      refine dx_istore (pc := 63) hx dX9_ruin_63 (dc_le rfl) (ls' := [some (.ref 55), some (.int x1), some (.int x2), some (.int x3), some (.int x4), some (.int r60)]) rfl ?_
      refine dx_iload (pc := 65) hx dX9_ruin_65 rfl ?_
      refine dx_if_ge (pc := 67) hx dX9_ruin_67 (tgt := 73) (by decide) (fun c67 => ?_) (fun c67 => ?_)
      · replace h := (if_pos c67).symm.trans h
        refine dx_iload_n (pc := 73) hx dX9_ruin_73 rfl ?_
        refine dx_iload (pc := 74) hx dX9_ruin_74 rfl ?_
        refine dx_ior (pc := 76) hx dX9_ruin_76 ?_
        refine dx_istore_n (pc := 77) hx dX9_ruin_77 (dc_le rfl) (ls' := [some (.ref 55), some (.int x1), some (.int x2), some (.int (x3 ||| r60)), some (.int x4), some (.int r60)]) rfl ?_
        refine dx_iinc (pc := 78) hx dX9_ruin_78 rfl (v := x4 + nI 1) (congrArg (fun z => x4 + z) kc_1) (dc_le rfl) (ls' := [some (.ref 55), some (.int x1), some (.int x2), some (.int (x3 ||| r60)), some (.int (x4 + nI 1)), some (.int r60)]) rfl ?_
        refine dx_goto (pc := 81) hx dX9_ruin_81 (tgt := 32) (by decide) ?_
        exact dx_wk [true, true, true, true, true, false] <| (ih (x3 ||| r60) (x4 + nI 1) q h hk hr)
      · replace h := (if_neg c67).symm.trans h
        refine dx_bipush (pc := 70) hx dX9_ruin_70 kb_m6 ?_
        obtain rfl := Option.some.inj h
        exact dx_iret hO (pc := 72) dX9_ruin_72 rfl (hr ((-6 : Int32)) rfl)
set_option maxHeartbeats 4000000 in
set_option maxRecDepth 100000 in
theorem th_X9_ruin {σ : dc_HP} {x1 : Int32} {x2 : Int32} {r : Int32} (h : fn_X9_ruin σ x1 x2 = some r) : dc_G mX9_ruin [.ref 55, .int x1, .int x2] σ (dc_qi (fun x τ => x = r ∧ τ = σ)) := by
  intro κ hO
  have hx : dc_Cx κ RX9 cX9_ruin 6 4 93 := hO.1
  show dc_X κ 0 [some (.ref 55), some (.int x1), some (.int x2), none, none, none] [] σ
  unfold fn_X9_ruin at h
  refine dx_iload_n (pc := 0) hx dX9_ruin_0 rfl ?_
  refine dx_i2l (pc := 1) hx dX9_ruin_1 ?_
  refine dx_lconst (pc := 2) hx dX9_ruin_2 (v := (0 : Int64)) (by decide) ?_
  refine dx_ldc2 (pc := 3) hx dX9_ruin_3 f_X9_105 ?_
  obtain ⟨r6, h6, h⟩ := Option.bind_eq_some_iff.mp h
  refine dx_callSir (pc := 6) (As := [.long x1.toInt64, .long ((0 : Int64)), .long ((5 : Int64))]) (rest := []) hx dX9_ruin_6 k_X9_77 rfl (dc_le rfl) (dc_le rfl) (dc_le rfl) (dc_le rfl) rfl (th_X9_in h6) ?_
  refine dx_if_ne (pc := 9) hx dX9_ruin_9 (tgt := 14) (by decide) (fun c9 => ?_) (fun c9 => ?_)
  · replace h := (if_neg c9).symm.trans h
    refine dx_iload_n (pc := 14) hx dX9_ruin_14 rfl ?_
    refine dx_i2l (pc := 15) hx dX9_ruin_15 ?_
    refine dx_lconst (pc := 16) hx dX9_ruin_16 (v := (0 : Int64)) (by decide) ?_
    refine dx_lconst (pc := 17) hx dX9_ruin_17 (v := (1 : Int64)) (by decide) ?_
    obtain ⟨r18, h18, h⟩ := Option.bind_eq_some_iff.mp h
    refine dx_callSir (pc := 18) (As := [.long x2.toInt64, .long ((0 : Int64)), .long ((1 : Int64))]) (rest := []) hx dX9_ruin_18 k_X9_77 rfl (dc_le rfl) (dc_le rfl) (dc_le rfl) (dc_le rfl) rfl (th_X9_in h18) ?_
    refine dx_if_ne (pc := 21) hx dX9_ruin_21 (tgt := 27) (by decide) (fun c21 => ?_) (fun c21 => ?_)
    · replace h := (if_neg c21).symm.trans h
      refine dx_iconst (pc := 27) hx dX9_ruin_27 kc_0 ?_
      refine dx_istore_n (pc := 28) hx dX9_ruin_28 (dc_le rfl) (ls' := [some (.ref 55), some (.int x1), some (.int x2), some (.int (nI 0)), none, none]) rfl ?_
      refine dx_iconst (pc := 29) hx dX9_ruin_29 kc_0 ?_
      refine dx_istore (pc := 30) hx dX9_ruin_30 (dc_le rfl) (ls' := [some (.ref 55), some (.int x1), some (.int x2), some (.int (nI 0)), some (.int (nI 0)), none]) rfl ?_
      obtain ⟨q9, h32, h⟩ := Option.bind_eq_some_iff.mp h
      refine (tl_X9_ruin_L32 hO σ x1 x2 200 (nI 0) (nI 0) q9 h32 (fun q32 e9 => ?_) (fun r9 e9 => ?_))
      rotate_left
      · subst e9
        obtain rfl := Option.some.inj h
        exact ⟨_, rfl, rfl, rfl⟩
      subst e9
      replace h := dc_inr h
      refine dx_iload_n (pc := 84) hx dX9_ruin_84 rfl ?_
      refine dx_if_ne (pc := 85) hx dX9_ruin_85 (tgt := 95) (by decide) (fun c85 => ?_) (fun c85 => ?_)
      · replace h := (if_neg c85).symm.trans h
        refine dx_iload_n (pc := 95) hx dX9_ruin_95 rfl ?_
        obtain rfl := Option.some.inj h
        exact dx_iret hO (pc := 96) dX9_ruin_96 rfl ⟨_, rfl, rfl, rfl⟩
      · replace h := (if_pos c85).symm.trans h
        refine dx_iload_n (pc := 88) hx dX9_ruin_88 rfl ?_
        obtain ⟨r89, h89, h⟩ := Option.bind_eq_some_iff.mp h
        refine dx_callSir (pc := 89) (As := [.int q32]) (rest := []) hx dX9_ruin_89 k_X9_95 rfl (dc_le rfl) (dc_le rfl) (dc_le rfl) (dc_le rfl) rfl (th_X9_bitsOf h89) ?_
        refine dx_goto (pc := 92) hx dX9_ruin_92 (tgt := 96) (by decide) ?_
        obtain rfl := Option.some.inj h
        exact dx_iret hO (pc := 96) dX9_ruin_96 rfl ⟨_, rfl, rfl, rfl⟩
    · replace h := (if_pos c21).symm.trans h
      refine dx_bipush (pc := 24) hx dX9_ruin_24 kb_m2 ?_
      obtain rfl := Option.some.inj h
      exact dx_iret hO (pc := 26) dX9_ruin_26 rfl ⟨_, rfl, rfl, rfl⟩
  · replace h := (if_pos c9).symm.trans h
    refine dx_iconst (pc := 12) hx dX9_ruin_12 kc_m1 ?_
    obtain rfl := Option.some.inj h
    exact dx_iret hO (pc := 13) dX9_ruin_13 rfl ⟨_, rfl, rfl, rfl⟩
set_option maxHeartbeats 4000000 in
set_option maxRecDepth 100000 in
theorem tl_X9_ahead_L4 {κ : dc_KX} {Q : Option Value → dc_HP → Prop} (hO : dc_Ok κ mX9_ahead Q) (σ : dc_HP) (x1 : Int32) : ∀ (n : Nat) (x2 : Int32) (x3 : Int32) (q : Int32), fn_X9_ahead_L4 σ x1 n x2 x3 = some q → ∀ (hk : dc_X κ 59 [some (.ref 55), some (.int x1), some (.int q), none] [] σ), dc_X κ 4 [some (.ref 55), some (.int x1), some (.int x2), some (.int x3)] [] σ := by
  have hx : dc_Cx κ RX9 cX9_ahead 4 0 0 := hO.1
  intro n
  induction n with
  | zero =>
    intro x2 x3 q h
    cases h
  | succ n ih =>
    intro x2 x3 q h hk
    unfold fn_X9_ahead_L4 at h
    refine dx_iload_n (pc := 4) hx dX9_ahead_4 rfl ?_
    refine dx_bipush (pc := 5) hx dX9_ahead_5 kb_6 ?_
    refine dx_icmp_ge (pc := 7) hx dX9_ahead_7 (tgt := 59) (by decide) (fun c7 => ?_) (fun c7 => ?_)
    · replace h := (if_pos c7).symm.trans h
      obtain rfl := Option.some.inj h
      exact dx_wk [true, true, true, false] <| hk
    · replace h := (if_neg c7).symm.trans h
      refine dx_iload_n (pc := 10) hx dX9_ahead_10 rfl ?_
      refine dx_aload_n (pc := 11) hx dX9_ahead_11 rfl ?_
      refine dx_getR (r := 69) (pc := 12) hx dX9_ahead_12 f_X9_49 rfl rfl ?_
      refine dx_iload_n (pc := 15) hx dX9_ahead_15 rfl ?_
      by_cases g16 : x3 < 0 ∨ 6 ≤ x3.toNatClampNeg
      · cases (if_pos g16).symm.trans h
      replace h := (if_neg g16).symm.trans h
      refine dx_iald (pc := 16) hx dX9_ahead_16 rfl g16 ?_
      refine dx_aload_n (pc := 17) hx dX9_ahead_17 rfl ?_
      refine dx_getR (r := 69) (pc := 18) hx dX9_ahead_18 f_X9_49 rfl rfl ?_
      refine dx_iload_n (pc := 21) hx dX9_ahead_21 rfl ?_
      by_cases g22 : x1 < 0 ∨ 6 ≤ x1.toNatClampNeg
      · cases (if_pos g22).symm.trans h
      replace h := (if_neg g22).symm.trans h
      refine dx_iald (pc := 22) hx dX9_ahead_22 rfl g22 ?_
      refine dx_icmp_gt (pc := 23) hx dX9_ahead_23 (tgt := 46) (by decide) (fun c23 => ?_) (fun c23 => ?_)
      · replace h := (if_pos c23).symm.trans h
        refine dx_iconst (pc := 46) hx dX9_ahead_46 kc_1 ?_
        refine dx_goto (pc := 47) hx dX9_ahead_47 (tgt := 51) (by decide) ?_
        refine dx_iadd (pc := 51) hx dX9_ahead_51 ?_
        refine dx_istore_n (pc := 52) hx dX9_ahead_52 (dc_le rfl) (ls' := [some (.ref 55), some (.int x1), some (.int (x2 + (nI 1))), some (.int x3)]) rfl ?_
        refine dx_iinc (pc := 53) hx dX9_ahead_53 rfl (v := x3 + nI 1) (congrArg (fun z => x3 + z) kc_1) (dc_le rfl) (ls' := [some (.ref 55), some (.int x1), some (.int (x2 + (nI 1))), some (.int (x3 + nI 1))]) rfl ?_
        refine dx_goto (pc := 56) hx dX9_ahead_56 (tgt := 4) (by decide) ?_
        exact (ih (x2 + (nI 1)) (x3 + nI 1) q h hk)
      · replace h := (if_neg c23).symm.trans h
        refine dx_aload_n (pc := 26) hx dX9_ahead_26 rfl ?_
        refine dx_getR (r := 69) (pc := 27) hx dX9_ahead_27 f_X9_49 rfl rfl ?_
        refine dx_iload_n (pc := 30) hx dX9_ahead_30 rfl ?_
        by_cases g31 : x3 < 0 ∨ 6 ≤ x3.toNatClampNeg
        · cases (if_pos g31).symm.trans h
        replace h := (if_neg g31).symm.trans h
        refine dx_iald (pc := 31) hx dX9_ahead_31 rfl g31 ?_
        refine dx_aload_n (pc := 32) hx dX9_ahead_32 rfl ?_
        refine dx_getR (r := 69) (pc := 33) hx dX9_ahead_33 f_X9_49 rfl rfl ?_
        refine dx_iload_n (pc := 36) hx dX9_ahead_36 rfl ?_
        by_cases g37 : x1 < 0 ∨ 6 ≤ x1.toNatClampNeg
        · cases (if_pos g37).symm.trans h
        replace h := (if_neg g37).symm.trans h
        refine dx_iald (pc := 37) hx dX9_ahead_37 rfl g37 ?_
        refine dx_icmp_ne (pc := 38) hx dX9_ahead_38 (tgt := 50) (by decide) (fun c38 => ?_) (fun c38 => ?_)
        · replace h := (if_neg c38).symm.trans h
          refine dx_iconst (pc := 50) hx dX9_ahead_50 kc_0 ?_
          refine dx_iadd (pc := 51) hx dX9_ahead_51 ?_
          refine dx_istore_n (pc := 52) hx dX9_ahead_52 (dc_le rfl) (ls' := [some (.ref 55), some (.int x1), some (.int (x2 + (nI 0))), some (.int x3)]) rfl ?_
          refine dx_iinc (pc := 53) hx dX9_ahead_53 rfl (v := x3 + nI 1) (congrArg (fun z => x3 + z) kc_1) (dc_le rfl) (ls' := [some (.ref 55), some (.int x1), some (.int (x2 + (nI 0))), some (.int (x3 + nI 1))]) rfl ?_
          refine dx_goto (pc := 56) hx dX9_ahead_56 (tgt := 4) (by decide) ?_
          exact (ih (x2 + (nI 0)) (x3 + nI 1) q h hk)
        · replace h := (if_pos c38).symm.trans h
          refine dx_iload_n (pc := 41) hx dX9_ahead_41 rfl ?_
          refine dx_iload_n (pc := 42) hx dX9_ahead_42 rfl ?_
          refine dx_icmp_ge (pc := 43) hx dX9_ahead_43 (tgt := 50) (by decide) (fun c43 => ?_) (fun c43 => ?_)
          · replace h := (if_pos c43).symm.trans h
            refine dx_iconst (pc := 50) hx dX9_ahead_50 kc_0 ?_
            refine dx_iadd (pc := 51) hx dX9_ahead_51 ?_
            refine dx_istore_n (pc := 52) hx dX9_ahead_52 (dc_le rfl) (ls' := [some (.ref 55), some (.int x1), some (.int (x2 + (nI 0))), some (.int x3)]) rfl ?_
            refine dx_iinc (pc := 53) hx dX9_ahead_53 rfl (v := x3 + nI 1) (congrArg (fun z => x3 + z) kc_1) (dc_le rfl) (ls' := [some (.ref 55), some (.int x1), some (.int (x2 + (nI 0))), some (.int (x3 + nI 1))]) rfl ?_
            refine dx_goto (pc := 56) hx dX9_ahead_56 (tgt := 4) (by decide) ?_
            exact (ih (x2 + (nI 0)) (x3 + nI 1) q h hk)
          · replace h := (if_neg c43).symm.trans h
            refine dx_iconst (pc := 46) hx dX9_ahead_46 kc_1 ?_
            refine dx_goto (pc := 47) hx dX9_ahead_47 (tgt := 51) (by decide) ?_
            refine dx_iadd (pc := 51) hx dX9_ahead_51 ?_
            refine dx_istore_n (pc := 52) hx dX9_ahead_52 (dc_le rfl) (ls' := [some (.ref 55), some (.int x1), some (.int (x2 + (nI 1))), some (.int x3)]) rfl ?_
            refine dx_iinc (pc := 53) hx dX9_ahead_53 rfl (v := x3 + nI 1) (congrArg (fun z => x3 + z) kc_1) (dc_le rfl) (ls' := [some (.ref 55), some (.int x1), some (.int (x2 + (nI 1))), some (.int (x3 + nI 1))]) rfl ?_
            refine dx_goto (pc := 56) hx dX9_ahead_56 (tgt := 4) (by decide) ?_
            exact (ih (x2 + (nI 1)) (x3 + nI 1) q h hk)
set_option maxHeartbeats 4000000 in
set_option maxRecDepth 100000 in
theorem th_X9_ahead {σ : dc_HP} {x1 : Int32} {r : Int32} (h : fn_X9_ahead σ x1 = some r) : dc_G mX9_ahead [.ref 55, .int x1] σ (dc_qi (fun x τ => x = r ∧ τ = σ)) := by
  intro κ hO
  have hx : dc_Cx κ RX9 cX9_ahead 4 0 0 := hO.1
  show dc_X κ 0 [some (.ref 55), some (.int x1), none, none] [] σ
  unfold fn_X9_ahead at h
  refine dx_iconst (pc := 0) hx dX9_ahead_0 kc_0 ?_
  refine dx_istore_n (pc := 1) hx dX9_ahead_1 (dc_le rfl) (ls' := [some (.ref 55), some (.int x1), some (.int (nI 0)), none]) rfl ?_
  refine dx_iconst (pc := 2) hx dX9_ahead_2 kc_0 ?_
  refine dx_istore_n (pc := 3) hx dX9_ahead_3 (dc_le rfl) (ls' := [some (.ref 55), some (.int x1), some (.int (nI 0)), some (.int (nI 0))]) rfl ?_
  obtain ⟨q4, h4, h⟩ := Option.bind_eq_some_iff.mp h
  refine (tl_X9_ahead_L4 hO σ x1 200 (nI 0) (nI 0) q4 h4 ?_)
  refine dx_iload_n (pc := 59) hx dX9_ahead_59 rfl ?_
  obtain rfl := Option.some.inj h
  exact dx_iret hO (pc := 60) dX9_ahead_60 rfl ⟨_, rfl, rfl, rfl⟩
set_option maxHeartbeats 4000000 in
set_option maxRecDepth 100000 in
theorem tl_X9_seats_L43 {κ : dc_KX} {Q : Option Value → dc_HP → Prop} (hO : dc_Ok κ mX9_seats Q) (x1 : Int32) (x3 : Int32) : ∀ (n : Nat) (x4 : Int32) (x5 : Int32) (σ : dc_HP) (q : dc_HP), fn_X9_seats_L43 x1 x3 n x4 x5 σ = some q → ∀ (hk : dc_X κ 73 [some (.ref 55), some (.int x1), none, some (.int x3), none, none, none, none] [] q), dc_X κ 43 [some (.ref 55), some (.int x1), none, some (.int x3), some (.int x4), some (.int x5), none, none] [] σ := by
  have hx : dc_Cx κ RX9 cX9_seats 8 1 25 := hO.1
  intro n
  induction n with
  | zero =>
    intro x4 x5 σ q h
    cases h
  | succ n ih =>
    intro x4 x5 σ q h hk
    unfold fn_X9_seats_L43 at h
    refine dx_iload (pc := 43) hx dX9_seats_43 rfl ?_
    refine dx_if_lt (pc := 45) hx dX9_seats_45 (tgt := 73) (by decide) (fun c45 => ?_) (fun c45 => ?_)
    · replace h := (if_pos c45).symm.trans h
      obtain rfl := Option.some.inj h
      exact dx_wk [true, true, true, true, false, false, true, true] <| hk
    · replace h := (if_neg c45).symm.trans h
      refine dx_aload_n (pc := 48) hx dX9_seats_48 rfl ?_
      refine dx_getR (r := 69) (pc := 49) hx dX9_seats_49 f_X9_49 rfl rfl ?_
      refine dx_iload (pc := 52) hx dX9_seats_52 rfl ?_
      refine dx_iload (pc := 54) hx dX9_seats_54 rfl ?_
      refine dx_bipush (pc := 56) hx dX9_seats_56 kb_10 ?_
      refine dx_irem (pc := 58) hx dX9_seats_58 (by decide) ?_
      by_cases g59 : x5 < 0 ∨ 6 ≤ x5.toNatClampNeg
      · cases (if_pos g59).symm.trans h
      replace h := (if_neg g59).symm.trans h
      refine dx_iast (pc := 59) hx dX9_seats_59 rfl g59 ?_
      refine dx_nm (fun s59 e59 => ?_)
      replace h := dc_lt e59 h
      refine dx_iload (pc := 60) hx dX9_seats_60 rfl ?_
      refine dx_bipush (pc := 62) hx dX9_seats_62 kb_10 ?_
      refine dx_idiv (pc := 64) hx dX9_seats_64 (by decide) ?_
      refine dx_istore (pc := 65) hx dX9_seats_65 (dc_le rfl) (ls' := [some (.ref 55), some (.int x1), none, some (.int x3), some (.int (x4 / (nI 10))), some (.int x5), none, none]) rfl ?_
      refine dx_iinc (pc := 67) hx dX9_seats_67 rfl (v := x5 + (-1 : Int32)) (congrArg (fun z => x5 + z) kc_m1) (dc_le rfl) (ls' := [some (.ref 55), some (.int x1), none, some (.int x3), some (.int (x4 / (nI 10))), some (.int (x5 + (-1 : Int32))), none, none]) rfl ?_
      refine dx_goto (pc := 70) hx dX9_seats_70 (tgt := 43) (by decide) ?_
      exact (ih (x4 / (nI 10)) (x5 + (-1 : Int32)) s59 q h hk)
set_option maxHeartbeats 4000000 in
set_option maxRecDepth 100000 in
theorem tl_X9_seats_L82 {κ : dc_KX} {Q : Option Value → dc_HP → Prop} (hO : dc_Ok κ mX9_seats Q) (σ : dc_HP) (x1 : Int32) (x3 : Int32) : ∀ (n : Nat) (x5 : Int32) (x6 : Int32) (x7 : Int32) (q : Int32 × Int32), fn_X9_seats_L82 σ x1 x3 n x5 x6 x7 = some q → ∀ (hk : dc_X κ 142 [some (.ref 55), some (.int x1), none, some (.int x3), none, some (.int q.1), some (.int q.2), none] [] σ), dc_X κ 82 [some (.ref 55), some (.int x1), none, some (.int x3), none, some (.int x5), some (.int x6), some (.int x7)] [] σ := by
  have hx : dc_Cx κ RX9 cX9_seats 8 1 25 := hO.1
  intro n
  induction n with
  | zero =>
    intro x5 x6 x7 q h
    cases h
  | succ n ih =>
    intro x5 x6 x7 q h hk
    unfold fn_X9_seats_L82 at h
    refine dx_iload (pc := 82) hx dX9_seats_82 rfl ?_
    refine dx_bipush (pc := 84) hx dX9_seats_84 kb_6 ?_
    refine dx_icmp_ge (pc := 86) hx dX9_seats_86 (tgt := 142) (by decide) (fun c86 => ?_) (fun c86 => ?_)
    · replace h := (if_pos c86).symm.trans h
      obtain rfl := Option.some.inj h
      exact dx_wk [true, true, true, true, true, true, true, false] <| hk
    · replace h := (if_neg c86).symm.trans h
      refine dx_iload (pc := 89) hx dX9_seats_89 rfl ?_
      refine dx_aload_n (pc := 91) hx dX9_seats_91 rfl ?_
      refine dx_iload (pc := 92) hx dX9_seats_92 rfl ?_
      obtain ⟨r94, h94, h⟩ := Option.bind_eq_some_iff.mp h
      refine dx_callVir (pc := 94) (As := [.int x7]) (rest := [.int x5]) hx dX9_seats_94 k_X9_263 rfl rfl rfl rfl (dc_le rfl) (dc_le rfl) (dc_le rfl) (dc_le rfl) rfl (th_X9_ahead h94) ?_
      refine dx_iload_n (pc := 97) hx dX9_seats_97 rfl ?_
      obtain ⟨q98, hr, h⟩ := Option.bind_eq_some_iff.mp h
      have hk : dc_X κ 109 [some (.ref 55), some (.int x1), none, some (.int x3), none, some (.int x5), some (.int x6), some (.int x7)] [.int q98, .int x5] σ := by
        clear hr
        refine dx_ior (pc := 109) hx dX9_seats_109 ?_
        refine dx_istore (pc := 110) hx dX9_seats_110 (dc_le rfl) (ls' := [some (.ref 55), some (.int x1), none, some (.int x3), none, some (.int (x5 ||| q98)), some (.int x6), some (.int x7)]) rfl ?_
        refine dx_aload_n (pc := 112) hx dX9_seats_112 rfl ?_
        refine dx_iload (pc := 113) hx dX9_seats_113 rfl ?_
        obtain ⟨r115, h115, h⟩ := Option.bind_eq_some_iff.mp h
        refine dx_callVir (pc := 115) (As := [.int x7]) (rest := []) hx dX9_seats_115 k_X9_263 rfl rfl rfl rfl (dc_le rfl) (dc_le rfl) (dc_le rfl) (dc_le rfl) rfl (th_X9_ahead h115) ?_
        refine dx_iload_n (pc := 118) hx dX9_seats_118 rfl ?_
        refine dx_icmp_ne (pc := 119) hx dX9_seats_119 (tgt := 132) (by decide) (fun c119 => ?_) (fun c119 => ?_)
        · replace h := (if_neg c119).symm.trans h
          refine dx_iload (pc := 132) hx dX9_seats_132 rfl ?_
          refine dx_istore (pc := 134) hx dX9_seats_134 (dc_le rfl) (ls' := [some (.ref 55), some (.int x1), none, some (.int x3), none, some (.int (x5 ||| q98)), some (.int x6), some (.int x7)]) rfl ?_
          refine dx_iinc (pc := 136) hx dX9_seats_136 rfl (v := x7 + nI 1) (congrArg (fun z => x7 + z) kc_1) (dc_le rfl) (ls' := [some (.ref 55), some (.int x1), none, some (.int x3), none, some (.int (x5 ||| q98)), some (.int x6), some (.int (x7 + nI 1))]) rfl ?_
          refine dx_goto (pc := 139) hx dX9_seats_139 (tgt := 82) (by decide) ?_
          exact (ih (x5 ||| q98) x6 (x7 + nI 1) q h hk)
        · replace h := (if_pos c119).symm.trans h
          refine dx_aload_n (pc := 122) hx dX9_seats_122 rfl ?_
          refine dx_getR (r := 69) (pc := 123) hx dX9_seats_123 f_X9_49 rfl rfl ?_
          refine dx_iload (pc := 126) hx dX9_seats_126 rfl ?_
          by_cases g128 : x7 < 0 ∨ 6 ≤ x7.toNatClampNeg
          · cases (if_pos g128).symm.trans h
          replace h := (if_neg g128).symm.trans h
          refine dx_iald (pc := 128) hx dX9_seats_128 rfl g128 ?_
          refine dx_goto (pc := 129) hx dX9_seats_129 (tgt := 134) (by decide) ?_
          refine dx_istore (pc := 134) hx dX9_seats_134 (dc_le rfl) (ls' := [some (.ref 55), some (.int x1), none, some (.int x3), none, some (.int (x5 ||| q98)), some (.int (σ.1 69 x7.toNatClampNeg)), some (.int x7)]) rfl ?_
          refine dx_iinc (pc := 136) hx dX9_seats_136 rfl (v := x7 + nI 1) (congrArg (fun z => x7 + z) kc_1) (dc_le rfl) (ls' := [some (.ref 55), some (.int x1), none, some (.int x3), none, some (.int (x5 ||| q98)), some (.int (σ.1 69 x7.toNatClampNeg)), some (.int (x7 + nI 1))]) rfl ?_
          refine dx_goto (pc := 139) hx dX9_seats_139 (tgt := 82) (by decide) ?_
          exact (ih (x5 ||| q98) (σ.1 69 x7.toNatClampNeg) (x7 + nI 1) q h hk)
      replace h := hr
      clear hr
      refine dx_icmp_ge (pc := 98) hx dX9_seats_98 (tgt := 108) (by decide) (fun c98 => ?_) (fun c98 => ?_)
      · replace h := (if_pos c98).symm.trans h
        refine dx_iconst (pc := 108) hx dX9_seats_108 kc_0 ?_
        obtain rfl := Option.some.inj h
        exact hk
      · replace h := (if_neg c98).symm.trans h
        refine dx_iconst (pc := 101) hx dX9_seats_101 kc_1 ?_
        refine dx_iload (pc := 102) hx dX9_seats_102 rfl ?_
        refine dx_ishl (pc := 104) hx dX9_seats_104 ?_
        refine dx_goto (pc := 105) hx dX9_seats_105 (tgt := 109) (by decide) ?_
        obtain rfl := Option.some.inj h
        exact hk
set_option maxHeartbeats 4000000 in
set_option maxRecDepth 100000 in
theorem th_X9_seats {σ : dc_HP} {x1 : Int32} {x2 : Int32} {x3 : Int32} {r : Int32 × dc_HP} (h : fn_X9_seats σ x1 x2 x3 = some r) : dc_G mX9_seats [.ref 55, .int x1, .int x2, .int x3] σ (dc_qi (fun x τ => x = r.1 ∧ τ = r.2)) := by
  intro κ hO
  have hx : dc_Cx κ RX9 cX9_seats 8 1 25 := hO.1
  show dc_X κ 0 [some (.ref 55), some (.int x1), some (.int x2), some (.int x3), none, none, none, none] [] σ
  unfold fn_X9_seats at h
  refine dx_iload_n (pc := 0) hx dX9_seats_0 rfl ?_
  refine dx_i2l (pc := 1) hx dX9_seats_1 ?_
  refine dx_lconst (pc := 2) hx dX9_seats_2 (v := (0 : Int64)) (by decide) ?_
  refine dx_ldc2 (pc := 3) hx dX9_seats_3 f_X9_259 ?_
  obtain ⟨r6, h6, h⟩ := Option.bind_eq_some_iff.mp h
  refine dx_callSir (pc := 6) (As := [.long x1.toInt64, .long ((0 : Int64)), .long ((6 : Int64))]) (rest := []) hx dX9_seats_6 k_X9_77 rfl (dc_le rfl) (dc_le rfl) (dc_le rfl) (dc_le rfl) rfl (th_X9_in h6) ?_
  refine dx_if_eq (pc := 9) hx dX9_seats_9 (tgt := 34) (by decide) (fun c9 => ?_) (fun c9 => ?_)
  · replace h := (if_pos c9).symm.trans h
    refine dx_bipush (pc := 34) hx dX9_seats_34 kb_m2 ?_
    obtain rfl := Option.some.inj h
    exact dx_iret hO (pc := 36) dX9_seats_36 rfl ⟨_, rfl, rfl, rfl⟩
  · replace h := (if_neg c9).symm.trans h
    refine dx_iload_n (pc := 12) hx dX9_seats_12 rfl ?_
    refine dx_i2l (pc := 13) hx dX9_seats_13 ?_
    refine dx_lconst (pc := 14) hx dX9_seats_14 (v := (0 : Int64)) (by decide) ?_
    refine dx_ldc2 (pc := 15) hx dX9_seats_15 f_X9_261 ?_
    obtain ⟨r18, h18, h⟩ := Option.bind_eq_some_iff.mp h
    refine dx_callSir (pc := 18) (As := [.long x2.toInt64, .long ((0 : Int64)), .long ((999999 : Int64))]) (rest := []) hx dX9_seats_18 k_X9_77 rfl (dc_le rfl) (dc_le rfl) (dc_le rfl) (dc_le rfl) rfl (th_X9_in h18) ?_
    refine dx_if_eq (pc := 21) hx dX9_seats_21 (tgt := 34) (by decide) (fun c21 => ?_) (fun c21 => ?_)
    · replace h := (if_pos c21).symm.trans h
      refine dx_bipush (pc := 34) hx dX9_seats_34 kb_m2 ?_
      obtain rfl := Option.some.inj h
      exact dx_iret hO (pc := 36) dX9_seats_36 rfl ⟨_, rfl, rfl, rfl⟩
    · replace h := (if_neg c21).symm.trans h
      refine dx_iload_n (pc := 24) hx dX9_seats_24 rfl ?_
      refine dx_i2l (pc := 25) hx dX9_seats_25 ?_
      refine dx_lconst (pc := 26) hx dX9_seats_26 (v := (0 : Int64)) (by decide) ?_
      refine dx_lconst (pc := 27) hx dX9_seats_27 (v := (1 : Int64)) (by decide) ?_
      obtain ⟨r28, h28, h⟩ := Option.bind_eq_some_iff.mp h
      refine dx_callSir (pc := 28) (As := [.long x3.toInt64, .long ((0 : Int64)), .long ((1 : Int64))]) (rest := []) hx dX9_seats_28 k_X9_77 rfl (dc_le rfl) (dc_le rfl) (dc_le rfl) (dc_le rfl) rfl (th_X9_in h28) ?_
      refine dx_if_ne (pc := 31) hx dX9_seats_31 (tgt := 37) (by decide) (fun c31 => ?_) (fun c31 => ?_)
      · replace h := (if_neg c31).symm.trans h
        refine dx_iload_n (pc := 37) hx dX9_seats_37 rfl ?_
        refine dx_istore (pc := 38) hx dX9_seats_38 (dc_le rfl) (ls' := [some (.ref 55), some (.int x1), some (.int x2), some (.int x3), some (.int x2), none, none, none]) rfl ?_
        refine dx_iconst (pc := 40) hx dX9_seats_40 kc_5 ?_
        refine dx_istore (pc := 41) hx dX9_seats_41 (dc_le rfl) (ls' := [some (.ref 55), some (.int x1), some (.int x2), some (.int x3), some (.int x2), some (.int (nI 5)), none, none]) rfl ?_
        obtain ⟨q43, h43, h⟩ := Option.bind_eq_some_iff.mp h
        refine dx_wk [true, true, false, true, true, true, true, true] <| (tl_X9_seats_L43 hO x1 x3 200 x2 (nI 5) σ q43 h43 ?_)
        refine dx_iconst (pc := 73) hx dX9_seats_73 kc_0 ?_
        refine dx_istore (pc := 74) hx dX9_seats_74 (dc_le rfl) (ls' := [some (.ref 55), some (.int x1), none, some (.int x3), none, some (.int (nI 0)), none, none]) rfl ?_
        refine dx_iconst (pc := 76) hx dX9_seats_76 kc_0 ?_
        refine dx_istore (pc := 77) hx dX9_seats_77 (dc_le rfl) (ls' := [some (.ref 55), some (.int x1), none, some (.int x3), none, some (.int (nI 0)), some (.int (nI 0)), none]) rfl ?_
        refine dx_iconst (pc := 79) hx dX9_seats_79 kc_0 ?_
        refine dx_istore (pc := 80) hx dX9_seats_80 (dc_le rfl) (ls' := [some (.ref 55), some (.int x1), none, some (.int x3), none, some (.int (nI 0)), some (.int (nI 0)), some (.int (nI 0))]) rfl ?_
        obtain ⟨q82, h82, h⟩ := Option.bind_eq_some_iff.mp h
        refine (tl_X9_seats_L82 hO q43 x1 x3 200 (nI 0) (nI 0) (nI 0) q82 h82 ?_)
        refine dx_iload_n (pc := 142) hx dX9_seats_142 rfl ?_
        refine dx_if_ne (pc := 143) hx dX9_seats_143 (tgt := 151) (by decide) (fun c143 => ?_) (fun c143 => ?_)
        · replace h := (if_neg c143).symm.trans h
          refine dx_iload (pc := 151) hx dX9_seats_151 rfl ?_
          obtain rfl := Option.some.inj h
          exact dx_iret hO (pc := 153) dX9_seats_153 rfl ⟨_, rfl, rfl, rfl⟩
        · replace h := (if_pos c143).symm.trans h
          refine dx_iload (pc := 146) hx dX9_seats_146 rfl ?_
          refine dx_goto (pc := 148) hx dX9_seats_148 (tgt := 153) (by decide) ?_
          obtain rfl := Option.some.inj h
          exact dx_iret hO (pc := 153) dX9_seats_153 rfl ⟨_, rfl, rfl, rfl⟩
      · replace h := (if_pos c31).symm.trans h
        refine dx_bipush (pc := 34) hx dX9_seats_34 kb_m2 ?_
        obtain rfl := Option.some.inj h
        exact dx_iret hO (pc := 36) dX9_seats_36 rfl ⟨_, rfl, rfl, rfl⟩
set_option maxHeartbeats 4000000 in
set_option maxRecDepth 100000 in
theorem tl_X9_areRanks_L8 {κ : dc_KX} {Q : Option Value → dc_HP → Prop} (hO : dc_Ok κ mX9_areRanks Q) (x1 : Int32) (x2 : Int32) : ∀ (n : Nat) (x3 : Int32) (x4 : Int32) (x5 : Int32) (σ : dc_HP) (q : Int32 × dc_HP), fn_X9_areRanks_L8 x1 x2 n x3 x4 x5 σ = some q → ∀ (hk : dc_X κ 62 [some (.ref 55), some (.int x1), some (.int x2), none, some (.int q.1), none] [] q.2), dc_X κ 8 [some (.ref 55), some (.int x1), some (.int x2), some (.int x3), some (.int x4), some (.int x5)] [] σ := by
  have hx : dc_Cx κ RX9 cX9_areRanks 6 1 25 := hO.1
  intro n
  induction n with
  | zero =>
    intro x3 x4 x5 σ q h
    cases h
  | succ n ih =>
    intro x3 x4 x5 σ q h hk
    unfold fn_X9_areRanks_L8 at h
    refine dx_iload (pc := 8) hx dX9_areRanks_8 rfl ?_
    refine dx_if_lt (pc := 10) hx dX9_areRanks_10 (tgt := 62) (by decide) (fun c10 => ?_) (fun c10 => ?_)
    · replace h := (if_pos c10).symm.trans h
      obtain rfl := Option.some.inj h
      exact dx_wk [true, true, true, false, true, false] <| hk
    · replace h := (if_neg c10).symm.trans h
      refine dx_aload_n (pc := 13) hx dX9_areRanks_13 rfl ?_
      refine dx_getR (r := 70) (pc := 14) hx dX9_areRanks_14 f_X9_52 rfl rfl ?_
      refine dx_iconst (pc := 17) hx dX9_areRanks_17 kc_4 ?_
      refine dx_iload_n (pc := 18) hx dX9_areRanks_18 rfl ?_
      refine dx_imul (pc := 19) hx dX9_areRanks_19 ?_
      refine dx_iload (pc := 20) hx dX9_areRanks_20 rfl ?_
      refine dx_iadd (pc := 22) hx dX9_areRanks_22 ?_
      refine dx_iload_n (pc := 23) hx dX9_areRanks_23 rfl ?_
      refine dx_bipush (pc := 24) hx dX9_areRanks_24 kb_10 ?_
      refine dx_irem (pc := 26) hx dX9_areRanks_26 (by decide) ?_
      by_cases g27 : (((nI 4) * x1) + x5) < 0 ∨ 16 ≤ (((nI 4) * x1) + x5).toNatClampNeg
      · cases (if_pos g27).symm.trans h
      replace h := (if_neg g27).symm.trans h
      refine dx_iast (pc := 27) hx dX9_areRanks_27 rfl g27 ?_
      refine dx_nm (fun s27 e27 => ?_)
      replace h := dc_lt e27 h
      refine dx_iload (pc := 28) hx dX9_areRanks_28 rfl ?_
      refine dx_iload_n (pc := 30) hx dX9_areRanks_30 rfl ?_
      refine dx_bipush (pc := 31) hx dX9_areRanks_31 kb_10 ?_
      refine dx_irem (pc := 33) hx dX9_areRanks_33 (by decide) ?_
      refine dx_iconst (pc := 34) hx dX9_areRanks_34 kc_4 ?_
      refine dx_icmp_ge (pc := 35) hx dX9_areRanks_35 (tgt := 47) (by decide) (fun c35 => ?_) (fun c35 => ?_)
      · replace h := (if_pos c35).symm.trans h
        refine dx_iconst (pc := 47) hx dX9_areRanks_47 kc_0 ?_
        refine dx_ior (pc := 48) hx dX9_areRanks_48 ?_
        refine dx_istore (pc := 49) hx dX9_areRanks_49 (dc_le rfl) (ls' := [some (.ref 55), some (.int x1), some (.int x2), some (.int x3), some (.int (x4 ||| (nI 0))), some (.int x5)]) rfl ?_
        refine dx_iload_n (pc := 51) hx dX9_areRanks_51 rfl ?_
        refine dx_bipush (pc := 52) hx dX9_areRanks_52 kb_10 ?_
        refine dx_idiv (pc := 54) hx dX9_areRanks_54 (by decide) ?_
        refine dx_istore_n (pc := 55) hx dX9_areRanks_55 (dc_le rfl) (ls' := [some (.ref 55), some (.int x1), some (.int x2), some (.int (x3 / (nI 10))), some (.int (x4 ||| (nI 0))), some (.int x5)]) rfl ?_
        refine dx_iinc (pc := 56) hx dX9_areRanks_56 rfl (v := x5 + (-1 : Int32)) (congrArg (fun z => x5 + z) kc_m1) (dc_le rfl) (ls' := [some (.ref 55), some (.int x1), some (.int x2), some (.int (x3 / (nI 10))), some (.int (x4 ||| (nI 0))), some (.int (x5 + (-1 : Int32)))]) rfl ?_
        refine dx_goto (pc := 59) hx dX9_areRanks_59 (tgt := 8) (by decide) ?_
        exact (ih (x3 / (nI 10)) (x4 ||| (nI 0)) (x5 + (-1 : Int32)) s27 q h hk)
      · replace h := (if_neg c35).symm.trans h
        refine dx_iconst (pc := 38) hx dX9_areRanks_38 kc_1 ?_
        refine dx_iload_n (pc := 39) hx dX9_areRanks_39 rfl ?_
        refine dx_bipush (pc := 40) hx dX9_areRanks_40 kb_10 ?_
        refine dx_irem (pc := 42) hx dX9_areRanks_42 (by decide) ?_
        refine dx_ishl (pc := 43) hx dX9_areRanks_43 ?_
        refine dx_goto (pc := 44) hx dX9_areRanks_44 (tgt := 48) (by decide) ?_
        refine dx_ior (pc := 48) hx dX9_areRanks_48 ?_
        refine dx_istore (pc := 49) hx dX9_areRanks_49 (dc_le rfl) (ls' := [some (.ref 55), some (.int x1), some (.int x2), some (.int x3), some (.int (x4 ||| ((nI 1) <<< ((x3 - x3 / (nI 10) * (nI 10)) &&& 31)))), some (.int x5)]) rfl ?_
        refine dx_iload_n (pc := 51) hx dX9_areRanks_51 rfl ?_
        refine dx_bipush (pc := 52) hx dX9_areRanks_52 kb_10 ?_
        refine dx_idiv (pc := 54) hx dX9_areRanks_54 (by decide) ?_
        refine dx_istore_n (pc := 55) hx dX9_areRanks_55 (dc_le rfl) (ls' := [some (.ref 55), some (.int x1), some (.int x2), some (.int (x3 / (nI 10))), some (.int (x4 ||| ((nI 1) <<< ((x3 - x3 / (nI 10) * (nI 10)) &&& 31)))), some (.int x5)]) rfl ?_
        refine dx_iinc (pc := 56) hx dX9_areRanks_56 rfl (v := x5 + (-1 : Int32)) (congrArg (fun z => x5 + z) kc_m1) (dc_le rfl) (ls' := [some (.ref 55), some (.int x1), some (.int x2), some (.int (x3 / (nI 10))), some (.int (x4 ||| ((nI 1) <<< ((x3 - x3 / (nI 10) * (nI 10)) &&& 31)))), some (.int (x5 + (-1 : Int32)))]) rfl ?_
        refine dx_goto (pc := 59) hx dX9_areRanks_59 (tgt := 8) (by decide) ?_
        exact (ih (x3 / (nI 10)) (x4 ||| ((nI 1) <<< ((x3 - x3 / (nI 10) * (nI 10)) &&& 31))) (x5 + (-1 : Int32)) s27 q h hk)
set_option maxHeartbeats 4000000 in
set_option maxRecDepth 100000 in
theorem th_X9_areRanks {σ : dc_HP} {x1 : Int32} {x2 : Int32} {r : Int32 × dc_HP} (h : fn_X9_areRanks σ x1 x2 = some r) : dc_G mX9_areRanks [.ref 55, .int x1, .int x2] σ (dc_qi (fun x τ => x = r.1 ∧ τ = r.2)) := by
  intro κ hO
  have hx : dc_Cx κ RX9 cX9_areRanks 6 1 25 := hO.1
  show dc_X κ 0 [some (.ref 55), some (.int x1), some (.int x2), none, none, none] [] σ
  unfold fn_X9_areRanks at h
  refine dx_iload_n (pc := 0) hx dX9_areRanks_0 rfl ?_
  refine dx_istore_n (pc := 1) hx dX9_areRanks_1 (dc_le rfl) (ls' := [some (.ref 55), some (.int x1), some (.int x2), some (.int x2), none, none]) rfl ?_
  refine dx_iconst (pc := 2) hx dX9_areRanks_2 kc_0 ?_
  refine dx_istore (pc := 3) hx dX9_areRanks_3 (dc_le rfl) (ls' := [some (.ref 55), some (.int x1), some (.int x2), some (.int x2), some (.int (nI 0)), none]) rfl ?_
  refine dx_iconst (pc := 5) hx dX9_areRanks_5 kc_3 ?_
  refine dx_istore (pc := 6) hx dX9_areRanks_6 (dc_le rfl) (ls' := [some (.ref 55), some (.int x1), some (.int x2), some (.int x2), some (.int (nI 0)), some (.int (nI 3))]) rfl ?_
  obtain ⟨q8, h8, h⟩ := Option.bind_eq_some_iff.mp h
  refine (tl_X9_areRanks_L8 hO x1 x2 200 x2 (nI 0) (nI 3) σ q8 h8 ?_)
  refine dx_iload_n (pc := 62) hx dX9_areRanks_62 rfl ?_
  refine dx_i2l (pc := 63) hx dX9_areRanks_63 ?_
  refine dx_lconst (pc := 64) hx dX9_areRanks_64 (v := (0 : Int64)) (by decide) ?_
  refine dx_ldc2 (pc := 65) hx dX9_areRanks_65 f_X9_266 ?_
  obtain ⟨r68, h68, h⟩ := Option.bind_eq_some_iff.mp h
  refine dx_callSir (pc := 68) (As := [.long x2.toInt64, .long ((0 : Int64)), .long ((3210 : Int64))]) (rest := []) hx dX9_areRanks_68 k_X9_77 rfl (dc_le rfl) (dc_le rfl) (dc_le rfl) (dc_le rfl) rfl (th_X9_in h68) ?_
  refine dx_if_eq (pc := 71) hx dX9_areRanks_71 (tgt := 85) (by decide) (fun c71 => ?_) (fun c71 => ?_)
  · replace h := (if_pos c71).symm.trans h
    refine dx_iconst (pc := 85) hx dX9_areRanks_85 kc_0 ?_
    obtain rfl := Option.some.inj h
    exact dx_zret hO (pc := 86) dX9_areRanks_86 rfl rfl ⟨_, rfl, rfl, rfl⟩
  · replace h := (if_neg c71).symm.trans h
    refine dx_iload (pc := 74) hx dX9_areRanks_74 rfl ?_
    refine dx_bipush (pc := 76) hx dX9_areRanks_76 kb_15 ?_
    refine dx_icmp_ne (pc := 78) hx dX9_areRanks_78 (tgt := 85) (by decide) (fun c78 => ?_) (fun c78 => ?_)
    · replace h := (if_neg c78).symm.trans h
      refine dx_iconst (pc := 85) hx dX9_areRanks_85 kc_0 ?_
      obtain rfl := Option.some.inj h
      exact dx_zret hO (pc := 86) dX9_areRanks_86 rfl rfl ⟨_, rfl, rfl, rfl⟩
    · replace h := (if_pos c78).symm.trans h
      refine dx_iconst (pc := 81) hx dX9_areRanks_81 kc_1 ?_
      refine dx_goto (pc := 82) hx dX9_areRanks_82 (tgt := 86) (by decide) ?_
      obtain rfl := Option.some.inj h
      exact dx_zret hO (pc := 86) dX9_areRanks_86 rfl rfl ⟨_, rfl, rfl, rfl⟩
set_option maxHeartbeats 4000000 in
set_option maxRecDepth 100000 in
theorem tl_X9_pointsTo_L6 {κ : dc_KX} {Q : Option Value → dc_HP → Prop} (hO : dc_Ok κ mX9_pointsTo Q) (σ : dc_HP) (x1 : Int32) (x2 : Int32) : ∀ (n : Nat) (x3 : Int32) (x4 : Int32) (q : Int32), fn_X9_pointsTo_L6 σ x1 x2 n x3 x4 = some q → ∀ (hk : dc_X κ 52 [some (.ref 55), some (.int x1), some (.int x2), some (.int q), none] [] σ), dc_X κ 6 [some (.ref 55), some (.int x1), some (.int x2), some (.int x3), some (.int x4)] [] σ := by
  have hx : dc_Cx κ RX9 cX9_pointsTo 5 0 0 := hO.1
  intro n
  induction n with
  | zero =>
    intro x3 x4 q h
    cases h
  | succ n ih =>
    intro x3 x4 q h hk
    unfold fn_X9_pointsTo_L6 at h
    refine dx_iload (pc := 6) hx dX9_pointsTo_6 rfl ?_
    refine dx_if_lt (pc := 8) hx dX9_pointsTo_8 (tgt := 52) (by decide) (fun c8 => ?_) (fun c8 => ?_)
    · replace h := (if_pos c8).symm.trans h
      obtain rfl := Option.some.inj h
      exact dx_wk [true, true, true, true, false] <| hk
    · replace h := (if_neg c8).symm.trans h
      refine dx_iload_n (pc := 11) hx dX9_pointsTo_11 rfl ?_
      refine dx_aload_n (pc := 12) hx dX9_pointsTo_12 rfl ?_
      refine dx_getR (r := 70) (pc := 13) hx dX9_pointsTo_13 f_X9_52 rfl rfl ?_
      refine dx_iconst (pc := 16) hx dX9_pointsTo_16 kc_4 ?_
      refine dx_iload_n (pc := 17) hx dX9_pointsTo_17 rfl ?_
      refine dx_imul (pc := 18) hx dX9_pointsTo_18 ?_
      refine dx_iload (pc := 19) hx dX9_pointsTo_19 rfl ?_
      refine dx_iadd (pc := 21) hx dX9_pointsTo_21 ?_
      by_cases g22 : (((nI 4) * x1) + x4) < 0 ∨ 16 ≤ (((nI 4) * x1) + x4).toNatClampNeg
      · cases (if_pos g22).symm.trans h
      replace h := (if_neg g22).symm.trans h
      refine dx_iald (pc := 22) hx dX9_pointsTo_22 rfl g22 ?_
      refine dx_ishr (pc := 23) hx dX9_pointsTo_23 ?_
      refine dx_iconst (pc := 24) hx dX9_pointsTo_24 kc_1 ?_
      refine dx_iand (pc := 25) hx dX9_pointsTo_25 ?_
      refine dx_iconst (pc := 26) hx dX9_pointsTo_26 kc_1 ?_
      refine dx_icmp_ne (pc := 27) hx dX9_pointsTo_27 (tgt := 44) (by decide) (fun c27 => ?_) (fun c27 => ?_)
      · replace h := (if_neg c27).symm.trans h
        refine dx_iload_n (pc := 44) hx dX9_pointsTo_44 rfl ?_
        refine dx_istore_n (pc := 45) hx dX9_pointsTo_45 (dc_le rfl) (ls' := [some (.ref 55), some (.int x1), some (.int x2), some (.int x3), some (.int x4)]) rfl ?_
        refine dx_iinc (pc := 46) hx dX9_pointsTo_46 rfl (v := x4 + (-1 : Int32)) (congrArg (fun z => x4 + z) kc_m1) (dc_le rfl) (ls' := [some (.ref 55), some (.int x1), some (.int x2), some (.int x3), some (.int (x4 + (-1 : Int32)))]) rfl ?_
        refine dx_goto (pc := 49) hx dX9_pointsTo_49 (tgt := 6) (by decide) ?_
        exact (ih x3 (x4 + (-1 : Int32)) q h hk)
      · replace h := (if_pos c27).symm.trans h
        refine dx_aload_n (pc := 30) hx dX9_pointsTo_30 rfl ?_
        refine dx_getR (r := 70) (pc := 31) hx dX9_pointsTo_31 f_X9_52 rfl rfl ?_
        refine dx_iconst (pc := 34) hx dX9_pointsTo_34 kc_4 ?_
        refine dx_iload_n (pc := 35) hx dX9_pointsTo_35 rfl ?_
        refine dx_imul (pc := 36) hx dX9_pointsTo_36 ?_
        refine dx_iload (pc := 37) hx dX9_pointsTo_37 rfl ?_
        refine dx_iadd (pc := 39) hx dX9_pointsTo_39 ?_
        by_cases g40 : (((nI 4) * x1) + x4) < 0 ∨ 16 ≤ (((nI 4) * x1) + x4).toNatClampNeg
        · cases (if_pos g40).symm.trans h
        replace h := (if_neg g40).symm.trans h
        refine dx_iald (pc := 40) hx dX9_pointsTo_40 rfl g40 ?_
        refine dx_goto (pc := 41) hx dX9_pointsTo_41 (tgt := 45) (by decide) ?_
        refine dx_istore_n (pc := 45) hx dX9_pointsTo_45 (dc_le rfl) (ls' := [some (.ref 55), some (.int x1), some (.int x2), some (.int (σ.1 70 (((nI 4) * x1) + x4).toNatClampNeg)), some (.int x4)]) rfl ?_
        refine dx_iinc (pc := 46) hx dX9_pointsTo_46 rfl (v := x4 + (-1 : Int32)) (congrArg (fun z => x4 + z) kc_m1) (dc_le rfl) (ls' := [some (.ref 55), some (.int x1), some (.int x2), some (.int (σ.1 70 (((nI 4) * x1) + x4).toNatClampNeg)), some (.int (x4 + (-1 : Int32)))]) rfl ?_
        refine dx_goto (pc := 49) hx dX9_pointsTo_49 (tgt := 6) (by decide) ?_
        exact (ih (σ.1 70 (((nI 4) * x1) + x4).toNatClampNeg) (x4 + (-1 : Int32)) q h hk)
set_option maxHeartbeats 4000000 in
set_option maxRecDepth 100000 in
theorem th_X9_pointsTo {σ : dc_HP} {x1 : Int32} {x2 : Int32} {r : Int32} (h : fn_X9_pointsTo σ x1 x2 = some r) : dc_G mX9_pointsTo [.ref 55, .int x1, .int x2] σ (dc_qi (fun x τ => x = r ∧ τ = σ)) := by
  intro κ hO
  have hx : dc_Cx κ RX9 cX9_pointsTo 5 0 0 := hO.1
  show dc_X κ 0 [some (.ref 55), some (.int x1), some (.int x2), none, none] [] σ
  unfold fn_X9_pointsTo at h
  refine dx_bipush (pc := 0) hx dX9_pointsTo_0 kb_m6 ?_
  refine dx_istore_n (pc := 2) hx dX9_pointsTo_2 (dc_le rfl) (ls' := [some (.ref 55), some (.int x1), some (.int x2), some (.int ((-6 : Int32))), none]) rfl ?_
  refine dx_iconst (pc := 3) hx dX9_pointsTo_3 kc_3 ?_
  refine dx_istore (pc := 4) hx dX9_pointsTo_4 (dc_le rfl) (ls' := [some (.ref 55), some (.int x1), some (.int x2), some (.int ((-6 : Int32))), some (.int (nI 3))]) rfl ?_
  obtain ⟨q6, h6, h⟩ := Option.bind_eq_some_iff.mp h
  refine (tl_X9_pointsTo_L6 hO σ x1 x2 200 ((-6 : Int32)) (nI 3) q6 h6 ?_)
  refine dx_iload_n (pc := 52) hx dX9_pointsTo_52 rfl ?_
  obtain rfl := Option.some.inj h
  exact dx_iret hO (pc := 53) dX9_pointsTo_53 rfl ⟨_, rfl, rfl, rfl⟩
set_option maxHeartbeats 4000000 in
set_option maxRecDepth 100000 in
theorem tl_X9_ringed_L18 {κ : dc_KX} {Q : Option Value → dc_HP → Prop} (hO : dc_Ok κ mX9_ringed Q) (σ : dc_HP) (x1 : Int32) (x2 : Int32) (x3 : Int32) : ∀ (n : Nat) (x4 : Int32) (x5 : Int32) (x6 : Int32) (q : Int32), fn_X9_ringed_L18 σ x1 x2 x3 n x4 x5 x6 = some q → ∀ (hk : dc_X κ 66 [some (.ref 55), some (.int x1), some (.int x2), some (.int x3), none, some (.int q), none] [] σ), dc_X κ 18 [some (.ref 55), some (.int x1), some (.int x2), some (.int x3), some (.int x4), some (.int x5), some (.int x6)] [] σ := by
  have hx : dc_Cx κ RX9 cX9_ringed 7 1 24 := hO.1
  intro n
  induction n with
  | zero =>
    intro x4 x5 x6 q h
    cases h
  | succ n ih =>
    intro x4 x5 x6 q h hk
    unfold fn_X9_ringed_L18 at h
    refine dx_iload (pc := 18) hx dX9_ringed_18 rfl ?_
    refine dx_iconst (pc := 20) hx dX9_ringed_20 kc_4 ?_
    refine dx_icmp_ge (pc := 21) hx dX9_ringed_21 (tgt := 66) (by decide) (fun c21 => ?_) (fun c21 => ?_)
    · replace h := (if_pos c21).symm.trans h
      obtain rfl := Option.some.inj h
      exact dx_wk [true, true, true, true, false, true, false] <| hk
    · replace h := (if_neg c21).symm.trans h
      refine dx_iload_n (pc := 24) hx dX9_ringed_24 rfl ?_
      refine dx_iload_n (pc := 25) hx dX9_ringed_25 rfl ?_
      refine dx_ishr (pc := 26) hx dX9_ringed_26 ?_
      refine dx_iconst (pc := 27) hx dX9_ringed_27 kc_1 ?_
      refine dx_iand (pc := 28) hx dX9_ringed_28 ?_
      refine dx_iconst (pc := 29) hx dX9_ringed_29 kc_1 ?_
      refine dx_icmp_ne (pc := 30) hx dX9_ringed_30 (tgt := 66) (by decide) (fun c30 => ?_) (fun c30 => ?_)
      · replace h := (if_neg c30).symm.trans h
        obtain rfl := Option.some.inj h
        exact dx_wk [true, true, true, true, false, true, false] <| hk
      · replace h := (if_pos c30).symm.trans h
        refine dx_aload_n (pc := 33) hx dX9_ringed_33 rfl ?_
        refine dx_iload (pc := 34) hx dX9_ringed_34 rfl ?_
        refine dx_iload_n (pc := 36) hx dX9_ringed_36 rfl ?_
        obtain ⟨r37, h37, h⟩ := Option.bind_eq_some_iff.mp h
        refine dx_callVir (pc := 37) (As := [.int x4, .int x1]) (rest := []) hx dX9_ringed_37 k_X9_268 rfl rfl rfl rfl (dc_le rfl) (dc_le rfl) (dc_le rfl) (dc_le rfl) rfl (th_X9_pointsTo h37) ?_
        refine dx_istore (pc := 40) hx dX9_ringed_40 (dc_le rfl) (ls' := [some (.ref 55), some (.int x1), some (.int x2), some (.int x3), some (.int r37), some (.int x5), some (.int x6)]) rfl ?_
        refine dx_iload (pc := 42) hx dX9_ringed_42 rfl ?_
        refine dx_if_ne (pc := 44) hx dX9_ringed_44 (tgt := 53) (by decide) (fun c44 => ?_) (fun c44 => ?_)
        · replace h := (if_neg c44).symm.trans h
          refine dx_iconst (pc := 53) hx dX9_ringed_53 kc_1 ?_
          refine dx_goto (pc := 54) hx dX9_ringed_54 (tgt := 58) (by decide) ?_
          refine dx_istore (pc := 58) hx dX9_ringed_58 (dc_le rfl) (ls' := [some (.ref 55), some (.int x1), some (.int x2), some (.int x3), some (.int r37), some (.int (nI 1)), some (.int x6)]) rfl ?_
          refine dx_iinc (pc := 60) hx dX9_ringed_60 rfl (v := x6 + nI 1) (congrArg (fun z => x6 + z) kc_1) (dc_le rfl) (ls' := [some (.ref 55), some (.int x1), some (.int x2), some (.int x3), some (.int r37), some (.int (nI 1)), some (.int (x6 + nI 1))]) rfl ?_
          refine dx_goto (pc := 63) hx dX9_ringed_63 (tgt := 18) (by decide) ?_
          exact (ih r37 (nI 1) (x6 + nI 1) q h hk)
        · replace h := (if_pos c44).symm.trans h
          refine dx_iload (pc := 47) hx dX9_ringed_47 rfl ?_
          refine dx_iload_n (pc := 49) hx dX9_ringed_49 rfl ?_
          refine dx_icmp_ne (pc := 50) hx dX9_ringed_50 (tgt := 57) (by decide) (fun c50 => ?_) (fun c50 => ?_)
          · replace h := (if_neg c50).symm.trans h
            refine dx_iconst (pc := 57) hx dX9_ringed_57 kc_0 ?_
            refine dx_istore (pc := 58) hx dX9_ringed_58 (dc_le rfl) (ls' := [some (.ref 55), some (.int x1), some (.int x2), some (.int x3), some (.int r37), some (.int (nI 0)), some (.int x6)]) rfl ?_
            refine dx_iinc (pc := 60) hx dX9_ringed_60 rfl (v := x6 + nI 1) (congrArg (fun z => x6 + z) kc_1) (dc_le rfl) (ls' := [some (.ref 55), some (.int x1), some (.int x2), some (.int x3), some (.int r37), some (.int (nI 0)), some (.int (x6 + nI 1))]) rfl ?_
            refine dx_goto (pc := 63) hx dX9_ringed_63 (tgt := 18) (by decide) ?_
            exact (ih r37 (nI 0) (x6 + nI 1) q h hk)
          · replace h := (if_pos c50).symm.trans h
            refine dx_iconst (pc := 53) hx dX9_ringed_53 kc_1 ?_
            refine dx_goto (pc := 54) hx dX9_ringed_54 (tgt := 58) (by decide) ?_
            refine dx_istore (pc := 58) hx dX9_ringed_58 (dc_le rfl) (ls' := [some (.ref 55), some (.int x1), some (.int x2), some (.int x3), some (.int r37), some (.int (nI 1)), some (.int x6)]) rfl ?_
            refine dx_iinc (pc := 60) hx dX9_ringed_60 rfl (v := x6 + nI 1) (congrArg (fun z => x6 + z) kc_1) (dc_le rfl) (ls' := [some (.ref 55), some (.int x1), some (.int x2), some (.int x3), some (.int r37), some (.int (nI 1)), some (.int (x6 + nI 1))]) rfl ?_
            refine dx_goto (pc := 63) hx dX9_ringed_63 (tgt := 18) (by decide) ?_
            exact (ih r37 (nI 1) (x6 + nI 1) q h hk)
set_option maxHeartbeats 4000000 in
set_option maxRecDepth 100000 in
theorem tl_X9_ringed_L4 {κ : dc_KX} {Q : Option Value → dc_HP → Prop} (hO : dc_Ok κ mX9_ringed Q) (σ : dc_HP) (x1 : Int32) : ∀ (n : Nat) (x2 : Int32) (x3 : Int32) (q : Int32), fn_X9_ringed_L4 σ x1 n x2 x3 = some q → ∀ (hk : dc_X κ 87 [some (.ref 55), some (.int x1), some (.int q), none, none, none, none] [] σ), dc_X κ 4 [some (.ref 55), some (.int x1), some (.int x2), some (.int x3), none, none, none] [] σ := by
  have hx : dc_Cx κ RX9 cX9_ringed 7 1 24 := hO.1
  intro n
  induction n with
  | zero =>
    intro x2 x3 q h
    cases h
  | succ n ih =>
    intro x2 x3 q h hk
    unfold fn_X9_ringed_L4 at h
    refine dx_iload_n (pc := 4) hx dX9_ringed_4 rfl ?_
    refine dx_iconst (pc := 5) hx dX9_ringed_5 kc_4 ?_
    refine dx_icmp_ge (pc := 6) hx dX9_ringed_6 (tgt := 87) (by decide) (fun c6 => ?_) (fun c6 => ?_)
    · replace h := (if_pos c6).symm.trans h
      obtain rfl := Option.some.inj h
      exact dx_wk [true, true, true, false, true, true, true] <| hk
    · replace h := (if_neg c6).symm.trans h
      refine dx_iload_n (pc := 9) hx dX9_ringed_9 rfl ?_
      refine dx_istore (pc := 10) hx dX9_ringed_10 (dc_le rfl) (ls' := [some (.ref 55), some (.int x1), some (.int x2), some (.int x3), some (.int x3), none, none]) rfl ?_
      refine dx_iconst (pc := 12) hx dX9_ringed_12 kc_0 ?_
      refine dx_istore (pc := 13) hx dX9_ringed_13 (dc_le rfl) (ls' := [some (.ref 55), some (.int x1), some (.int x2), some (.int x3), some (.int x3), some (.int (nI 0)), none]) rfl ?_
      refine dx_iconst (pc := 15) hx dX9_ringed_15 kc_0 ?_
      refine dx_istore (pc := 16) hx dX9_ringed_16 (dc_le rfl) (ls' := [some (.ref 55), some (.int x1), some (.int x2), some (.int x3), some (.int x3), some (.int (nI 0)), some (.int (nI 0))]) rfl ?_
      obtain ⟨q18, h18, h⟩ := Option.bind_eq_some_iff.mp h
      refine (tl_X9_ringed_L18 hO σ x1 x2 x3 200 x3 (nI 0) (nI 0) q18 h18 ?_)
      refine dx_iload_n (pc := 66) hx dX9_ringed_66 rfl ?_
      refine dx_iload (pc := 67) hx dX9_ringed_67 rfl ?_
      refine dx_if_eq (pc := 69) hx dX9_ringed_69 (tgt := 78) (by decide) (fun c69 => ?_) (fun c69 => ?_)
      · replace h := (if_pos c69).symm.trans h
        refine dx_iconst (pc := 78) hx dX9_ringed_78 kc_0 ?_
        refine dx_ior (pc := 79) hx dX9_ringed_79 ?_
        refine dx_istore_n (pc := 80) hx dX9_ringed_80 (dc_le rfl) (ls' := [some (.ref 55), some (.int x1), some (.int (x2 ||| (nI 0))), some (.int x3), none, some (.int q18), none]) rfl ?_
        refine dx_iinc (pc := 81) hx dX9_ringed_81 rfl (v := x3 + nI 1) (congrArg (fun z => x3 + z) kc_1) (dc_le rfl) (ls' := [some (.ref 55), some (.int x1), some (.int (x2 ||| (nI 0))), some (.int (x3 + nI 1)), none, some (.int q18), none]) rfl ?_
        refine dx_goto (pc := 84) hx dX9_ringed_84 (tgt := 4) (by decide) ?_
        exact dx_wk [true, true, true, true, true, false, true] <| (ih (x2 ||| (nI 0)) (x3 + nI 1) q h hk)
      · replace h := (if_neg c69).symm.trans h
        refine dx_iconst (pc := 72) hx dX9_ringed_72 kc_1 ?_
        refine dx_iload_n (pc := 73) hx dX9_ringed_73 rfl ?_
        refine dx_ishl (pc := 74) hx dX9_ringed_74 ?_
        refine dx_goto (pc := 75) hx dX9_ringed_75 (tgt := 79) (by decide) ?_
        refine dx_ior (pc := 79) hx dX9_ringed_79 ?_
        refine dx_istore_n (pc := 80) hx dX9_ringed_80 (dc_le rfl) (ls' := [some (.ref 55), some (.int x1), some (.int (x2 ||| ((nI 1) <<< (x3 &&& 31)))), some (.int x3), none, some (.int q18), none]) rfl ?_
        refine dx_iinc (pc := 81) hx dX9_ringed_81 rfl (v := x3 + nI 1) (congrArg (fun z => x3 + z) kc_1) (dc_le rfl) (ls' := [some (.ref 55), some (.int x1), some (.int (x2 ||| ((nI 1) <<< (x3 &&& 31)))), some (.int (x3 + nI 1)), none, some (.int q18), none]) rfl ?_
        refine dx_goto (pc := 84) hx dX9_ringed_84 (tgt := 4) (by decide) ?_
        exact dx_wk [true, true, true, true, true, false, true] <| (ih (x2 ||| ((nI 1) <<< (x3 &&& 31))) (x3 + nI 1) q h hk)
set_option maxHeartbeats 4000000 in
set_option maxRecDepth 100000 in
theorem th_X9_ringed {σ : dc_HP} {x1 : Int32} {r : Int32} (h : fn_X9_ringed σ x1 = some r) : dc_G mX9_ringed [.ref 55, .int x1] σ (dc_qi (fun x τ => x = r ∧ τ = σ)) := by
  intro κ hO
  have hx : dc_Cx κ RX9 cX9_ringed 7 1 24 := hO.1
  show dc_X κ 0 [some (.ref 55), some (.int x1), none, none, none, none, none] [] σ
  unfold fn_X9_ringed at h
  refine dx_iconst (pc := 0) hx dX9_ringed_0 kc_0 ?_
  refine dx_istore_n (pc := 1) hx dX9_ringed_1 (dc_le rfl) (ls' := [some (.ref 55), some (.int x1), some (.int (nI 0)), none, none, none, none]) rfl ?_
  refine dx_iconst (pc := 2) hx dX9_ringed_2 kc_0 ?_
  refine dx_istore_n (pc := 3) hx dX9_ringed_3 (dc_le rfl) (ls' := [some (.ref 55), some (.int x1), some (.int (nI 0)), some (.int (nI 0)), none, none, none]) rfl ?_
  obtain ⟨q4, h4, h⟩ := Option.bind_eq_some_iff.mp h
  refine (tl_X9_ringed_L4 hO σ x1 200 (nI 0) (nI 0) q4 h4 ?_)
  refine dx_iload_n (pc := 87) hx dX9_ringed_87 rfl ?_
  obtain rfl := Option.some.inj h
  exact dx_iret hO (pc := 88) dX9_ringed_88 rfl ⟨_, rfl, rfl, rfl⟩
set_option maxHeartbeats 4000000 in
set_option maxRecDepth 100000 in
theorem tl_X9_deal_L15 {κ : dc_KX} {Q : Option Value → dc_HP → Prop} (hO : dc_Ok κ mX9_deal Q) (x1 : Int32) (x2 : Int32) : ∀ (n : Nat) (x3 : Int32) (σ : dc_HP) (q : dc_HP), fn_X9_deal_L15 x1 x2 n x3 σ = some q → ∀ (hk : dc_X κ 56 [some (.ref 55), some (.int x1), some (.int x2), none] [] q), dc_X κ 15 [some (.ref 55), some (.int x1), some (.int x2), some (.int x3)] [] σ := by
  have hx : dc_Cx κ RX9 cX9_deal 4 2 50 := hO.1
  intro n
  induction n with
  | zero =>
    intro x3 σ q h
    cases h
  | succ n ih =>
    intro x3 σ q h hk
    unfold fn_X9_deal_L15 at h
    refine dx_iload_n (pc := 15) hx dX9_deal_15 rfl ?_
    refine dx_iconst (pc := 16) hx dX9_deal_16 kc_4 ?_
    refine dx_icmp_ge (pc := 17) hx dX9_deal_17 (tgt := 56) (by decide) (fun c17 => ?_) (fun c17 => ?_)
    · replace h := (if_pos c17).symm.trans h
      obtain rfl := Option.some.inj h
      exact dx_wk [true, true, true, false] <| hk
    · replace h := (if_neg c17).symm.trans h
      refine dx_aload_n (pc := 20) hx dX9_deal_20 rfl ?_
      refine dx_getR (r := 71) (pc := 21) hx dX9_deal_21 f_X9_55 rfl rfl ?_
      refine dx_iload_n (pc := 24) hx dX9_deal_24 rfl ?_
      refine dx_iload_n (pc := 25) hx dX9_deal_25 rfl ?_
      refine dx_iload_n (pc := 26) hx dX9_deal_26 rfl ?_
      refine dx_ishr (pc := 27) hx dX9_deal_27 ?_
      refine dx_iconst (pc := 28) hx dX9_deal_28 kc_1 ?_
      refine dx_iand (pc := 29) hx dX9_deal_29 ?_
      refine dx_iconst (pc := 30) hx dX9_deal_30 kc_1 ?_
      refine dx_icmp_ne (pc := 31) hx dX9_deal_31 (tgt := 43) (by decide) (fun c31 => ?_) (fun c31 => ?_)
      · replace h := (if_neg c31).symm.trans h
        refine dx_aload_n (pc := 43) hx dX9_deal_43 rfl ?_
        refine dx_getR (r := 71) (pc := 44) hx dX9_deal_44 f_X9_55 rfl rfl ?_
        refine dx_iload_n (pc := 47) hx dX9_deal_47 rfl ?_
        by_cases g48 : x3 < 0 ∨ 4 ≤ x3.toNatClampNeg
        · cases (if_pos g48).symm.trans h
        replace h := (if_neg g48).symm.trans h
        refine dx_iald (pc := 48) hx dX9_deal_48 rfl g48 ?_
        by_cases g49 : x3 < 0 ∨ 4 ≤ x3.toNatClampNeg
        · cases (if_pos g49).symm.trans h
        replace h := (if_neg g49).symm.trans h
        refine dx_iast (pc := 49) hx dX9_deal_49 rfl g49 ?_
        refine dx_nm (fun s49 e49 => ?_)
        replace h := dc_lt e49 h
        refine dx_iinc (pc := 50) hx dX9_deal_50 rfl (v := x3 + nI 1) (congrArg (fun z => x3 + z) kc_1) (dc_le rfl) (ls' := [some (.ref 55), some (.int x1), some (.int x2), some (.int (x3 + nI 1))]) rfl ?_
        refine dx_goto (pc := 53) hx dX9_deal_53 (tgt := 15) (by decide) ?_
        exact (ih (x3 + nI 1) s49 q h hk)
      · replace h := (if_pos c31).symm.trans h
        refine dx_aload_n (pc := 34) hx dX9_deal_34 rfl ?_
        refine dx_iload_n (pc := 35) hx dX9_deal_35 rfl ?_
        refine dx_iload_n (pc := 36) hx dX9_deal_36 rfl ?_
        obtain ⟨r37, h37, h⟩ := Option.bind_eq_some_iff.mp h
        refine dx_callVir (pc := 37) (As := [.int x3, .int x1]) (rest := [.int x3, .ref 71]) hx dX9_deal_37 k_X9_268 rfl rfl rfl rfl (dc_le rfl) (dc_le rfl) (dc_le rfl) (dc_le rfl) rfl (th_X9_pointsTo h37) ?_
        refine dx_goto (pc := 40) hx dX9_deal_40 (tgt := 49) (by decide) ?_
        by_cases g49 : x3 < 0 ∨ 4 ≤ x3.toNatClampNeg
        · cases (if_pos g49).symm.trans h
        replace h := (if_neg g49).symm.trans h
        refine dx_iast (pc := 49) hx dX9_deal_49 rfl g49 ?_
        refine dx_nm (fun s49 e49 => ?_)
        replace h := dc_lt e49 h
        refine dx_iinc (pc := 50) hx dX9_deal_50 rfl (v := x3 + nI 1) (congrArg (fun z => x3 + z) kc_1) (dc_le rfl) (ls' := [some (.ref 55), some (.int x1), some (.int x2), some (.int (x3 + nI 1))]) rfl ?_
        refine dx_goto (pc := 53) hx dX9_deal_53 (tgt := 15) (by decide) ?_
        exact (ih (x3 + nI 1) s49 q h hk)
set_option maxHeartbeats 4000000 in
set_option maxRecDepth 100000 in
theorem tl_X9_deal_L3 {κ : dc_KX} {Q : Option Value → dc_HP → Prop} (hO : dc_Ok κ mX9_deal Q) : ∀ (n : Nat) (x1 : Int32) (σ : dc_HP) (q : dc_HP), fn_X9_deal_L3 n x1 σ = some q → ∀ (hk : dc_X κ 65 [some (.ref 55), none, none, none] [] q), dc_X κ 3 [some (.ref 55), some (.int x1), none, none] [] σ := by
  have hx : dc_Cx κ RX9 cX9_deal 4 2 50 := hO.1
  intro n
  induction n with
  | zero =>
    intro x1 σ q h
    cases h
  | succ n ih =>
    intro x1 σ q h hk
    unfold fn_X9_deal_L3 at h
    refine dx_iload_n (pc := 3) hx dX9_deal_3 rfl ?_
    refine dx_if_eq (pc := 4) hx dX9_deal_4 (tgt := 65) (by decide) (fun c4 => ?_) (fun c4 => ?_)
    · replace h := (if_pos c4).symm.trans h
      obtain rfl := Option.some.inj h
      exact dx_wk [true, false, true, true] <| hk
    · replace h := (if_neg c4).symm.trans h
      refine dx_aload_n (pc := 7) hx dX9_deal_7 rfl ?_
      refine dx_iload_n (pc := 8) hx dX9_deal_8 rfl ?_
      obtain ⟨r9, h9, h⟩ := Option.bind_eq_some_iff.mp h
      refine dx_callVir (pc := 9) (As := [.int x1]) (rest := []) hx dX9_deal_9 k_X9_271 rfl rfl rfl rfl (dc_le rfl) (dc_le rfl) (dc_le rfl) (dc_le rfl) rfl (th_X9_ringed h9) ?_
      refine dx_istore_n (pc := 12) hx dX9_deal_12 (dc_le rfl) (ls' := [some (.ref 55), some (.int x1), some (.int r9), none]) rfl ?_
      refine dx_iconst (pc := 13) hx dX9_deal_13 kc_0 ?_
      refine dx_istore_n (pc := 14) hx dX9_deal_14 (dc_le rfl) (ls' := [some (.ref 55), some (.int x1), some (.int r9), some (.int (nI 0))]) rfl ?_
      obtain ⟨q15, h15, h⟩ := Option.bind_eq_some_iff.mp h
      refine (tl_X9_deal_L15 hO x1 r9 200 (nI 0) σ q15 h15 ?_)
      refine dx_iload_n (pc := 56) hx dX9_deal_56 rfl ?_
      refine dx_iload_n (pc := 57) hx dX9_deal_57 rfl ?_
      refine dx_iconst (pc := 58) hx dX9_deal_58 kc_m1 ?_
      refine dx_ixor (pc := 59) hx dX9_deal_59 ?_
      refine dx_iand (pc := 60) hx dX9_deal_60 ?_
      refine dx_istore_n (pc := 61) hx dX9_deal_61 (dc_le rfl) (ls' := [some (.ref 55), some (.int (x1 &&& (r9 ^^^ ((-1 : Int32))))), some (.int r9), none]) rfl ?_
      refine dx_goto (pc := 62) hx dX9_deal_62 (tgt := 3) (by decide) ?_
      exact dx_wk [true, true, false, true] <| (ih (x1 &&& (r9 ^^^ ((-1 : Int32)))) q15 q h hk)
set_option maxHeartbeats 4000000 in
set_option maxRecDepth 100000 in
theorem th_X9_deal {σ : dc_HP} {r : dc_HP} (h : fn_X9_deal σ = some r) : dc_G mX9_deal [.ref 55] σ (dc_qv (fun τ => τ = r)) := by
  intro κ hO
  have hx : dc_Cx κ RX9 cX9_deal 4 2 50 := hO.1
  show dc_X κ 0 [some (.ref 55), none, none, none] [] σ
  unfold fn_X9_deal at h
  refine dx_bipush (pc := 0) hx dX9_deal_0 kb_15 ?_
  refine dx_istore_n (pc := 2) hx dX9_deal_2 (dc_le rfl) (ls' := [some (.ref 55), some (.int (nI 15)), none, none]) rfl ?_
  obtain ⟨q3, h3, h⟩ := Option.bind_eq_some_iff.mp h
  refine (tl_X9_deal_L3 hO  200 (nI 15) σ q3 h3 ?_)
  obtain rfl := Option.some.inj h
  exact dx_vret hO (pc := 65) dX9_deal_65 rfl ⟨rfl, rfl⟩
set_option maxHeartbeats 4000000 in
set_option maxRecDepth 100000 in
theorem tl_X9_rings_L76 {κ : dc_KX} {Q : Option Value → dc_HP → Prop} (hO : dc_Ok κ mX9_rings Q) (σ : dc_HP) (x5 : Int32) : ∀ (n : Nat) (x7 : Int32) (x8 : Int32) (x9 : Int32) (q : Int32 × Int32), fn_X9_rings_L76 σ x5 n x7 x8 x9 = some q → ∀ (hk : dc_X κ 125 [some (.ref 55), none, none, none, none, some (.int x5), none, some (.int q.1), some (.int q.2), none] [] σ), dc_X κ 76 [some (.ref 55), none, none, none, none, some (.int x5), none, some (.int x7), some (.int x8), some (.int x9)] [] σ := by
  have hx : dc_Cx κ RX9 cX9_rings 10 3 73 := hO.1
  intro n
  induction n with
  | zero =>
    intro x7 x8 x9 q h
    cases h
  | succ n ih =>
    intro x7 x8 x9 q h hk
    unfold fn_X9_rings_L76 at h
    refine dx_iload (pc := 76) hx dX9_rings_76 rfl ?_
    refine dx_iconst (pc := 78) hx dX9_rings_78 kc_4 ?_
    refine dx_icmp_ge (pc := 79) hx dX9_rings_79 (tgt := 125) (by decide) (fun c79 => ?_) (fun c79 => ?_)
    · replace h := (if_pos c79).symm.trans h
      obtain rfl := Option.some.inj h
      exact dx_wk [true, true, true, true, true, true, true, true, true, false] <| hk
    · replace h := (if_neg c79).symm.trans h
      refine dx_iload (pc := 82) hx dX9_rings_82 rfl ?_
      refine dx_aload_n (pc := 84) hx dX9_rings_84 rfl ?_
      refine dx_getR (r := 71) (pc := 85) hx dX9_rings_85 f_X9_55 rfl rfl ?_
      refine dx_iload (pc := 88) hx dX9_rings_88 rfl ?_
      by_cases g90 : x9 < 0 ∨ 4 ≤ x9.toNatClampNeg
      · cases (if_pos g90).symm.trans h
      replace h := (if_neg g90).symm.trans h
      refine dx_iald (pc := 90) hx dX9_rings_90 rfl g90 ?_
      refine dx_iload (pc := 91) hx dX9_rings_91 rfl ?_
      obtain ⟨q93, hr, h⟩ := Option.bind_eq_some_iff.mp h
      have hk : dc_X κ 101 [some (.ref 55), none, none, none, none, some (.int x5), none, some (.int x7), some (.int x8), some (.int x9)] [.int q93, .int x7] σ := by
        clear hr
        refine dx_iadd (pc := 101) hx dX9_rings_101 ?_
        refine dx_istore (pc := 102) hx dX9_rings_102 (dc_le rfl) (ls' := [some (.ref 55), none, none, none, none, some (.int x5), none, some (.int (x7 + q93)), some (.int x8), some (.int x9)]) rfl ?_
        refine dx_bipush (pc := 104) hx dX9_rings_104 kb_10 ?_
        refine dx_iload (pc := 106) hx dX9_rings_106 rfl ?_
        refine dx_imul (pc := 108) hx dX9_rings_108 ?_
        refine dx_aload_n (pc := 109) hx dX9_rings_109 rfl ?_
        refine dx_getR (r := 71) (pc := 110) hx dX9_rings_110 f_X9_55 rfl rfl ?_
        refine dx_iload (pc := 113) hx dX9_rings_113 rfl ?_
        by_cases g115 : x9 < 0 ∨ 4 ≤ x9.toNatClampNeg
        · cases (if_pos g115).symm.trans h
        replace h := (if_neg g115).symm.trans h
        refine dx_iald (pc := 115) hx dX9_rings_115 rfl g115 ?_
        refine dx_iadd (pc := 116) hx dX9_rings_116 ?_
        refine dx_istore (pc := 117) hx dX9_rings_117 (dc_le rfl) (ls' := [some (.ref 55), none, none, none, none, some (.int x5), none, some (.int (x7 + q93)), some (.int (((nI 10) * x8) + (σ.1 71 x9.toNatClampNeg))), some (.int x9)]) rfl ?_
        refine dx_iinc (pc := 119) hx dX9_rings_119 rfl (v := x9 + nI 1) (congrArg (fun z => x9 + z) kc_1) (dc_le rfl) (ls' := [some (.ref 55), none, none, none, none, some (.int x5), none, some (.int (x7 + q93)), some (.int (((nI 10) * x8) + (σ.1 71 x9.toNatClampNeg))), some (.int (x9 + nI 1))]) rfl ?_
        refine dx_goto (pc := 122) hx dX9_rings_122 (tgt := 76) (by decide) ?_
        exact (ih (x7 + q93) (((nI 10) * x8) + (σ.1 71 x9.toNatClampNeg)) (x9 + nI 1) q h hk)
      replace h := hr
      clear hr
      refine dx_icmp_ne (pc := 93) hx dX9_rings_93 (tgt := 100) (by decide) (fun c93 => ?_) (fun c93 => ?_)
      · replace h := (if_neg c93).symm.trans h
        refine dx_iconst (pc := 100) hx dX9_rings_100 kc_0 ?_
        obtain rfl := Option.some.inj h
        exact hk
      · replace h := (if_pos c93).symm.trans h
        refine dx_iconst (pc := 96) hx dX9_rings_96 kc_1 ?_
        refine dx_goto (pc := 97) hx dX9_rings_97 (tgt := 101) (by decide) ?_
        obtain rfl := Option.some.inj h
        exact hk
set_option maxHeartbeats 4000000 in
set_option maxRecDepth 100000 in
theorem th_X9_rings {σ : dc_HP} {x1 : Int32} {x2 : Int32} {x3 : Int32} {x4 : Int32} {x5 : Int32} {r : Int32 × dc_HP} (h : fn_X9_rings σ x1 x2 x3 x4 x5 = some r) : dc_G mX9_rings [.ref 55, .int x1, .int x2, .int x3, .int x4, .int x5] σ (dc_qi (fun x τ => x = r.1 ∧ τ = r.2)) := by
  intro κ hO
  have hx : dc_Cx κ RX9 cX9_rings 10 3 73 := hO.1
  show dc_X κ 0 [some (.ref 55), some (.int x1), some (.int x2), some (.int x3), some (.int x4), some (.int x5), none, none, none, none] [] σ
  unfold fn_X9_rings at h
  refine dx_aload_n (pc := 0) hx dX9_rings_0 rfl ?_
  refine dx_iconst (pc := 1) hx dX9_rings_1 kc_0 ?_
  refine dx_iload_n (pc := 2) hx dX9_rings_2 rfl ?_
  obtain ⟨r3, h3, h⟩ := Option.bind_eq_some_iff.mp h
  refine dx_callViw (pc := 3) (As := [.int (nI 0), .int x1]) (rest := []) hx dX9_rings_3 k_X9_274 rfl rfl rfl rfl (dc_le rfl) (dc_le rfl) (dc_le rfl) (dc_le rfl) rfl (th_X9_areRanks h3) ?_
  obtain ⟨q6, hr, h⟩ := Option.bind_eq_some_iff.mp h
  have hk : dc_X κ 42 [some (.ref 55), some (.int x1), some (.int x2), some (.int x3), some (.int x4), some (.int x5), none, none, none, none] [.int q6.1] q6.2 := by
    clear hr
    refine dx_istore (pc := 42) hx dX9_rings_42 (dc_le rfl) (ls' := [some (.ref 55), some (.int x1), some (.int x2), some (.int x3), some (.int x4), some (.int x5), some (.int q6.1), none, none, none]) rfl ?_
    refine dx_iload (pc := 44) hx dX9_rings_44 rfl ?_
    refine dx_if_eq (pc := 46) hx dX9_rings_46 (tgt := 60) (by decide) (fun c46 => ?_) (fun c46 => ?_)
    · replace h := (if_pos c46).symm.trans h
      refine dx_bipush (pc := 60) hx dX9_rings_60 kb_m2 ?_
      obtain rfl := Option.some.inj h
      exact dx_iret hO (pc := 62) dX9_rings_62 rfl ⟨_, rfl, rfl, rfl⟩
    · replace h := (if_neg c46).symm.trans h
      refine dx_iload (pc := 49) hx dX9_rings_49 rfl ?_
      refine dx_i2l (pc := 51) hx dX9_rings_51 ?_
      refine dx_lconst (pc := 52) hx dX9_rings_52 (v := (0 : Int64)) (by decide) ?_
      refine dx_lconst (pc := 53) hx dX9_rings_53 (v := (1 : Int64)) (by decide) ?_
      obtain ⟨r54, h54, h⟩ := Option.bind_eq_some_iff.mp h
      refine dx_callSir (pc := 54) (As := [.long x5.toInt64, .long ((0 : Int64)), .long ((1 : Int64))]) (rest := []) hx dX9_rings_54 k_X9_77 rfl (dc_le rfl) (dc_le rfl) (dc_le rfl) (dc_le rfl) rfl (th_X9_in h54) ?_
      refine dx_if_ne (pc := 57) hx dX9_rings_57 (tgt := 63) (by decide) (fun c57 => ?_) (fun c57 => ?_)
      · replace h := (if_neg c57).symm.trans h
        refine dx_aload_n (pc := 63) hx dX9_rings_63 rfl ?_
        obtain ⟨r64, h64, h⟩ := Option.bind_eq_some_iff.mp h
        refine dx_callVvw (pc := 64) (As := []) (rest := []) hx dX9_rings_64 k_X9_277 rfl rfl rfl rfl (dc_le rfl) (dc_le rfl) (dc_le rfl) (dc_le rfl) rfl (th_X9_deal h64) ?_
        refine dx_iconst (pc := 67) hx dX9_rings_67 kc_0 ?_
        refine dx_istore (pc := 68) hx dX9_rings_68 (dc_le rfl) (ls' := [some (.ref 55), some (.int x1), some (.int x2), some (.int x3), some (.int x4), some (.int x5), some (.int q6.1), some (.int (nI 0)), none, none]) rfl ?_
        refine dx_iconst (pc := 70) hx dX9_rings_70 kc_0 ?_
        refine dx_istore (pc := 71) hx dX9_rings_71 (dc_le rfl) (ls' := [some (.ref 55), some (.int x1), some (.int x2), some (.int x3), some (.int x4), some (.int x5), some (.int q6.1), some (.int (nI 0)), some (.int (nI 0)), none]) rfl ?_
        refine dx_iconst (pc := 73) hx dX9_rings_73 kc_0 ?_
        refine dx_istore (pc := 74) hx dX9_rings_74 (dc_le rfl) (ls' := [some (.ref 55), some (.int x1), some (.int x2), some (.int x3), some (.int x4), some (.int x5), some (.int q6.1), some (.int (nI 0)), some (.int (nI 0)), some (.int (nI 0))]) rfl ?_
        obtain ⟨q76, h76, h⟩ := Option.bind_eq_some_iff.mp h
        refine dx_wk [true, false, false, false, false, true, false, true, true, true] <| (tl_X9_rings_L76 hO r64 x5 200 (nI 0) (nI 0) (nI 0) q76 h76 ?_)
        refine dx_iload (pc := 125) hx dX9_rings_125 rfl ?_
        refine dx_if_ne (pc := 127) hx dX9_rings_127 (tgt := 135) (by decide) (fun c127 => ?_) (fun c127 => ?_)
        · replace h := (if_neg c127).symm.trans h
          refine dx_iload (pc := 135) hx dX9_rings_135 rfl ?_
          obtain rfl := Option.some.inj h
          exact dx_iret hO (pc := 137) dX9_rings_137 rfl ⟨_, rfl, rfl, rfl⟩
        · replace h := (if_pos c127).symm.trans h
          refine dx_iload (pc := 130) hx dX9_rings_130 rfl ?_
          refine dx_goto (pc := 132) hx dX9_rings_132 (tgt := 137) (by decide) ?_
          obtain rfl := Option.some.inj h
          exact dx_iret hO (pc := 137) dX9_rings_137 rfl ⟨_, rfl, rfl, rfl⟩
      · replace h := (if_pos c57).symm.trans h
        refine dx_bipush (pc := 60) hx dX9_rings_60 kb_m2 ?_
        obtain rfl := Option.some.inj h
        exact dx_iret hO (pc := 62) dX9_rings_62 rfl ⟨_, rfl, rfl, rfl⟩
  replace h := hr
  clear hr
  refine dx_if_eq (pc := 6) hx dX9_rings_6 (tgt := 41) (by decide) (fun c6 => ?_) (fun c6 => ?_)
  · replace h := (if_pos c6).symm.trans h
    refine dx_iconst (pc := 41) hx dX9_rings_41 kc_0 ?_
    obtain rfl := Option.some.inj h
    exact hk
  · replace h := (if_neg c6).symm.trans h
    refine dx_aload_n (pc := 9) hx dX9_rings_9 rfl ?_
    refine dx_iconst (pc := 10) hx dX9_rings_10 kc_1 ?_
    refine dx_iload_n (pc := 11) hx dX9_rings_11 rfl ?_
    obtain ⟨r12, h12, h⟩ := Option.bind_eq_some_iff.mp h
    refine dx_callViw (pc := 12) (As := [.int (nI 1), .int x2]) (rest := []) hx dX9_rings_12 k_X9_274 rfl rfl rfl rfl (dc_le rfl) (dc_le rfl) (dc_le rfl) (dc_le rfl) rfl (th_X9_areRanks h12) ?_
    refine dx_if_eq (pc := 15) hx dX9_rings_15 (tgt := 41) (by decide) (fun c15 => ?_) (fun c15 => ?_)
    · replace h := (if_pos c15).symm.trans h
      refine dx_iconst (pc := 41) hx dX9_rings_41 kc_0 ?_
      obtain rfl := Option.some.inj h
      exact hk
    · replace h := (if_neg c15).symm.trans h
      refine dx_aload_n (pc := 18) hx dX9_rings_18 rfl ?_
      refine dx_iconst (pc := 19) hx dX9_rings_19 kc_2 ?_
      refine dx_iload_n (pc := 20) hx dX9_rings_20 rfl ?_
      obtain ⟨r21, h21, h⟩ := Option.bind_eq_some_iff.mp h
      refine dx_callViw (pc := 21) (As := [.int (nI 2), .int x3]) (rest := []) hx dX9_rings_21 k_X9_274 rfl rfl rfl rfl (dc_le rfl) (dc_le rfl) (dc_le rfl) (dc_le rfl) rfl (th_X9_areRanks h21) ?_
      refine dx_if_eq (pc := 24) hx dX9_rings_24 (tgt := 41) (by decide) (fun c24 => ?_) (fun c24 => ?_)
      · replace h := (if_pos c24).symm.trans h
        refine dx_iconst (pc := 41) hx dX9_rings_41 kc_0 ?_
        obtain rfl := Option.some.inj h
        exact hk
      · replace h := (if_neg c24).symm.trans h
        refine dx_aload_n (pc := 27) hx dX9_rings_27 rfl ?_
        refine dx_iconst (pc := 28) hx dX9_rings_28 kc_3 ?_
        refine dx_iload (pc := 29) hx dX9_rings_29 rfl ?_
        obtain ⟨r31, h31, h⟩ := Option.bind_eq_some_iff.mp h
        refine dx_callViw (pc := 31) (As := [.int (nI 3), .int x4]) (rest := []) hx dX9_rings_31 k_X9_274 rfl rfl rfl rfl (dc_le rfl) (dc_le rfl) (dc_le rfl) (dc_le rfl) rfl (th_X9_areRanks h31) ?_
        refine dx_if_eq (pc := 34) hx dX9_rings_34 (tgt := 41) (by decide) (fun c34 => ?_) (fun c34 => ?_)
        · replace h := (if_pos c34).symm.trans h
          refine dx_iconst (pc := 41) hx dX9_rings_41 kc_0 ?_
          obtain rfl := Option.some.inj h
          exact hk
        · replace h := (if_neg c34).symm.trans h
          refine dx_iconst (pc := 37) hx dX9_rings_37 kc_1 ?_
          refine dx_goto (pc := 38) hx dX9_rings_38 (tgt := 42) (by decide) ?_
          obtain rfl := Option.some.inj h
          exact hk
set_option maxHeartbeats 4000000 in
set_option maxRecDepth 100000 in
theorem th_X9_seen {σ : dc_HP} {x1 : Int32} {x2 : Int32} {r : Int32 × dc_HP} (h : fn_X9_seen σ x1 x2 = some r) : dc_G mX9_seen [.ref 55, .int x1, .int x2] σ (dc_qi (fun x τ => x = r.1 ∧ τ = r.2)) := by
  intro κ hO
  have hx : dc_Cx κ RX9 cX9_seen 3 1 25 := hO.1
  show dc_X κ 0 [some (.ref 55), some (.int x1), some (.int x2)] [] σ
  unfold fn_X9_seen at h
  refine dx_iload_n (pc := 0) hx dX9_seen_0 rfl ?_
  refine dx_i2l (pc := 1) hx dX9_seen_1 ?_
  refine dx_lconst (pc := 2) hx dX9_seen_2 (v := (1 : Int64)) (by decide) ?_
  refine dx_ldc2 (pc := 3) hx dX9_seen_3 f_X9_112 ?_
  obtain ⟨r6, h6, h⟩ := Option.bind_eq_some_iff.mp h
  refine dx_callSir (pc := 6) (As := [.long x1.toInt64, .long ((1 : Int64)), .long ((9 : Int64))]) (rest := []) hx dX9_seen_6 k_X9_77 rfl (dc_le rfl) (dc_le rfl) (dc_le rfl) (dc_le rfl) rfl (th_X9_in h6) ?_
  refine dx_if_eq (pc := 9) hx dX9_seen_9 (tgt := 24) (by decide) (fun c9 => ?_) (fun c9 => ?_)
  · replace h := (if_pos c9).symm.trans h
    refine dx_bipush (pc := 24) hx dX9_seen_24 kb_m2 ?_
    obtain rfl := Option.some.inj h
    exact dx_iret hO (pc := 26) dX9_seen_26 rfl ⟨_, rfl, rfl, rfl⟩
  · replace h := (if_neg c9).symm.trans h
    refine dx_iload_n (pc := 12) hx dX9_seen_12 rfl ?_
    refine dx_i2l (pc := 13) hx dX9_seen_13 ?_
    refine dx_lconst (pc := 14) hx dX9_seen_14 (v := (0 : Int64)) (by decide) ?_
    refine dx_ldc2 (pc := 15) hx dX9_seen_15 f_X9_280 ?_
    obtain ⟨r18, h18, h⟩ := Option.bind_eq_some_iff.mp h
    refine dx_callSir (pc := 18) (As := [.long x2.toInt64, .long ((0 : Int64)), .long ((18 : Int64))]) (rest := []) hx dX9_seen_18 k_X9_77 rfl (dc_le rfl) (dc_le rfl) (dc_le rfl) (dc_le rfl) rfl (th_X9_in h18) ?_
    refine dx_if_ne (pc := 21) hx dX9_seen_21 (tgt := 27) (by decide) (fun c21 => ?_) (fun c21 => ?_)
    · replace h := (if_neg c21).symm.trans h
      refine dx_aload_n (pc := 27) hx dX9_seen_27 rfl ?_
      refine dx_getI (pc := 28) hx dX9_seen_28 f_X9_282 rfl rfl ?_
      refine dx_bipush (pc := 31) hx dX9_seen_31 kb_8 ?_
      refine dx_icmp_ne (pc := 33) hx dX9_seen_33 (tgt := 39) (by decide) (fun c33 => ?_) (fun c33 => ?_)
      · replace h := (if_neg c33).symm.trans h
        refine dx_aload_n (pc := 39) hx dX9_seen_39 rfl ?_
        refine dx_getR (r := 61) (pc := 40) hx dX9_seen_40 f_X9_25 rfl rfl ?_
        refine dx_aload_n (pc := 43) hx dX9_seen_43 rfl ?_
        refine dx_getI (pc := 44) hx dX9_seen_44 f_X9_282 rfl rfl ?_
        refine dx_iload_n (pc := 47) hx dX9_seen_47 rfl ?_
        by_cases g48 : (σ.1 55 11) < 0 ∨ 8 ≤ (σ.1 55 11).toNatClampNeg
        · cases (if_pos g48).symm.trans h
        replace h := (if_neg g48).symm.trans h
        refine dx_iast (pc := 48) hx dX9_seen_48 rfl g48 ?_
        refine dx_nm (fun s48 e48 => ?_)
        replace h := dc_lt e48 h
        refine dx_aload_n (pc := 49) hx dX9_seen_49 rfl ?_
        refine dx_getR (r := 62) (pc := 50) hx dX9_seen_50 f_X9_28 rfl rfl ?_
        refine dx_aload_n (pc := 53) hx dX9_seen_53 rfl ?_
        refine dx_getI (pc := 54) hx dX9_seen_54 f_X9_282 rfl rfl ?_
        refine dx_iload_n (pc := 57) hx dX9_seen_57 rfl ?_
        by_cases g58 : (s48.1 55 11) < 0 ∨ 8 ≤ (s48.1 55 11).toNatClampNeg
        · cases (if_pos g58).symm.trans h
        replace h := (if_neg g58).symm.trans h
        refine dx_iast (pc := 58) hx dX9_seen_58 rfl g58 ?_
        refine dx_nm (fun s58 e58 => ?_)
        replace h := dc_lt e58 h
        refine dx_aload_n (pc := 59) hx dX9_seen_59 rfl ?_
        refine dx_dup (pc := 60) hx dX9_seen_60 rfl ?_
        refine dx_getI (pc := 61) hx dX9_seen_61 f_X9_282 rfl rfl ?_
        refine dx_iconst (pc := 64) hx dX9_seen_64 kc_1 ?_
        refine dx_iadd (pc := 65) hx dX9_seen_65 ?_
        refine dx_putI (pc := 66) hx dX9_seen_66 f_X9_282 rfl rfl tyX9_ok rfl (Or.inl ⟨rfl, rfl⟩) ?_
        refine dx_nm (fun s66 e66 => ?_)
        replace h := dc_lt e66 h
        refine dx_aload_n (pc := 69) hx dX9_seen_69 rfl ?_
        refine dx_getI (pc := 70) hx dX9_seen_70 f_X9_282 rfl rfl ?_
        obtain rfl := Option.some.inj h
        exact dx_iret hO (pc := 73) dX9_seen_73 rfl ⟨_, rfl, rfl, rfl⟩
      · replace h := (if_pos c33).symm.trans h
        refine dx_bipush (pc := 36) hx dX9_seen_36 kb_m4 ?_
        obtain rfl := Option.some.inj h
        exact dx_iret hO (pc := 38) dX9_seen_38 rfl ⟨_, rfl, rfl, rfl⟩
    · replace h := (if_pos c21).symm.trans h
      refine dx_bipush (pc := 24) hx dX9_seen_24 kb_m2 ?_
      obtain rfl := Option.some.inj h
      exact dx_iret hO (pc := 26) dX9_seen_26 rfl ⟨_, rfl, rfl, rfl⟩
set_option maxHeartbeats 4000000 in
set_option maxRecDepth 100000 in
theorem th_X9_forget {σ : dc_HP} {r : Int32 × dc_HP} (h : fn_X9_forget σ = some r) : dc_G mX9_forget [.ref 55] σ (dc_qi (fun x τ => x = r.1 ∧ τ = r.2)) := by
  intro κ hO
  have hx : dc_Cx κ RX9 cX9_forget 2 0 0 := hO.1
  show dc_X κ 0 [some (.ref 55), none] [] σ
  unfold fn_X9_forget at h
  refine dx_aload_n (pc := 0) hx dX9_forget_0 rfl ?_
  refine dx_getI (pc := 1) hx dX9_forget_1 f_X9_282 rfl rfl ?_
  refine dx_istore_n (pc := 4) hx dX9_forget_4 (dc_le rfl) (ls' := [some (.ref 55), some (.int (σ.1 55 11))]) rfl ?_
  refine dx_aload_n (pc := 5) hx dX9_forget_5 rfl ?_
  refine dx_iconst (pc := 6) hx dX9_forget_6 kc_0 ?_
  refine dx_putI (pc := 7) hx dX9_forget_7 f_X9_282 rfl rfl tyX9_ok rfl (Or.inl ⟨rfl, rfl⟩) ?_
  refine dx_nm (fun s7 e7 => ?_)
  replace h := dc_lt e7 h
  refine dx_iload_n (pc := 10) hx dX9_forget_10 rfl ?_
  obtain rfl := Option.some.inj h
  exact dx_iret hO (pc := 11) dX9_forget_11 rfl ⟨_, rfl, rfl, rfl⟩
set_option maxHeartbeats 4000000 in
set_option maxRecDepth 100000 in
theorem th_X9_together {σ : dc_HP} {x0 : Int32} {x1 : Int32} {r : Int32} (h : fn_X9_together x0 x1 = some r) : dc_G mX9_together [.int x0, .int x1] σ (dc_qi (fun x τ => x = r ∧ τ = σ)) := by
  intro κ hO
  have hx : dc_Cx κ RX9 cX9_together 4 0 0 := hO.1
  show dc_X κ 0 [some (.int x0), some (.int x1), none, none] [] σ
  unfold fn_X9_together at h
  refine dx_iload_n (pc := 0) hx dX9_together_0 rfl ?_
  refine dx_bipush (pc := 1) hx dX9_together_1 kb_10 ?_
  refine dx_idiv (pc := 3) hx dX9_together_3 (by decide) ?_
  refine dx_istore_n (pc := 4) hx dX9_together_4 (dc_le rfl) (ls' := [some (.int x0), some (.int x1), some (.int (x0 / (nI 10))), none]) rfl ?_
  refine dx_iload_n (pc := 5) hx dX9_together_5 rfl ?_
  refine dx_bipush (pc := 6) hx dX9_together_6 kb_10 ?_
  refine dx_irem (pc := 8) hx dX9_together_8 (by decide) ?_
  refine dx_istore_n (pc := 9) hx dX9_together_9 (dc_le rfl) (ls' := [some (.int x0), some (.int x1), some (.int (x0 / (nI 10))), some (.int (x0 - x0 / (nI 10) * (nI 10)))]) rfl ?_
  refine dx_iload_n (pc := 10) hx dX9_together_10 rfl ?_
  refine dx_iload_n (pc := 11) hx dX9_together_11 rfl ?_
  refine dx_icmp_ge (pc := 12) hx dX9_together_12 (tgt := 19) (by decide) (fun c12 => ?_) (fun c12 => ?_)
  · replace h := (if_pos c12).symm.trans h
    refine dx_iload_n (pc := 19) hx dX9_together_19 rfl ?_
    refine dx_iload_n (pc := 20) hx dX9_together_20 rfl ?_
    refine dx_iload_n (pc := 21) hx dX9_together_21 rfl ?_
    refine dx_icmp_ge (pc := 22) hx dX9_together_22 (tgt := 29) (by decide) (fun c22 => ?_) (fun c22 => ?_)
    · replace h := (if_pos c22).symm.trans h
      refine dx_iload_n (pc := 29) hx dX9_together_29 rfl ?_
      refine dx_iadd (pc := 30) hx dX9_together_30 ?_
      obtain rfl := Option.some.inj h
      exact dx_iret hO (pc := 31) dX9_together_31 rfl ⟨_, rfl, rfl, rfl⟩
    · replace h := (if_neg c22).symm.trans h
      refine dx_iload_n (pc := 25) hx dX9_together_25 rfl ?_
      refine dx_goto (pc := 26) hx dX9_together_26 (tgt := 30) (by decide) ?_
      refine dx_iadd (pc := 30) hx dX9_together_30 ?_
      obtain rfl := Option.some.inj h
      exact dx_iret hO (pc := 31) dX9_together_31 rfl ⟨_, rfl, rfl, rfl⟩
  · replace h := (if_neg c12).symm.trans h
    refine dx_iload_n (pc := 15) hx dX9_together_15 rfl ?_
    refine dx_goto (pc := 16) hx dX9_together_16 (tgt := 20) (by decide) ?_
    refine dx_iload_n (pc := 20) hx dX9_together_20 rfl ?_
    refine dx_iload_n (pc := 21) hx dX9_together_21 rfl ?_
    refine dx_icmp_ge (pc := 22) hx dX9_together_22 (tgt := 29) (by decide) (fun c22 => ?_) (fun c22 => ?_)
    · replace h := (if_pos c22).symm.trans h
      refine dx_iload_n (pc := 29) hx dX9_together_29 rfl ?_
      refine dx_iadd (pc := 30) hx dX9_together_30 ?_
      obtain rfl := Option.some.inj h
      exact dx_iret hO (pc := 31) dX9_together_31 rfl ⟨_, rfl, rfl, rfl⟩
    · replace h := (if_neg c22).symm.trans h
      refine dx_iload_n (pc := 25) hx dX9_together_25 rfl ?_
      refine dx_goto (pc := 26) hx dX9_together_26 (tgt := 30) (by decide) ?_
      refine dx_iadd (pc := 30) hx dX9_together_30 ?_
      obtain rfl := Option.some.inj h
      exact dx_iret hO (pc := 31) dX9_together_31 rfl ⟨_, rfl, rfl, rfl⟩
set_option maxHeartbeats 4000000 in
set_option maxRecDepth 100000 in
theorem tl_X9_fits_L4 {κ : dc_KX} {Q : Option Value → dc_HP → Prop} (hO : dc_Ok κ mX9_fits Q) (σ : dc_HP) (x1 : Int32) : ∀ (n : Nat) (x2 : Int32) (x3 : Int32) (q : Int32), fn_X9_fits_L4 σ x1 n x2 x3 = some q → ∀ (hk : dc_X κ 47 [some (.ref 55), some (.int x1), some (.int q), none] [] σ), dc_X κ 4 [some (.ref 55), some (.int x1), some (.int x2), some (.int x3)] [] σ := by
  have hx : dc_Cx κ RX9 cX9_fits 4 1 23 := hO.1
  intro n
  induction n with
  | zero =>
    intro x2 x3 q h
    cases h
  | succ n ih =>
    intro x2 x3 q h hk
    unfold fn_X9_fits_L4 at h
    refine dx_iload_n (pc := 4) hx dX9_fits_4 rfl ?_
    refine dx_aload_n (pc := 5) hx dX9_fits_5 rfl ?_
    refine dx_getI (pc := 6) hx dX9_fits_6 f_X9_282 rfl rfl ?_
    refine dx_icmp_ge (pc := 9) hx dX9_fits_9 (tgt := 47) (by decide) (fun c9 => ?_) (fun c9 => ?_)
    · replace h := (if_pos c9).symm.trans h
      obtain rfl := Option.some.inj h
      exact dx_wk [true, true, true, false] <| hk
    · replace h := (if_neg c9).symm.trans h
      refine dx_iload_n (pc := 12) hx dX9_fits_12 rfl ?_
      refine dx_if_eq (pc := 13) hx dX9_fits_13 (tgt := 39) (by decide) (fun c13 => ?_) (fun c13 => ?_)
      · replace h := (if_pos c13).symm.trans h
        refine dx_iconst (pc := 39) hx dX9_fits_39 kc_0 ?_
        refine dx_istore_n (pc := 40) hx dX9_fits_40 (dc_le rfl) (ls' := [some (.ref 55), some (.int x1), some (.int (nI 0)), some (.int x3)]) rfl ?_
        refine dx_iinc (pc := 41) hx dX9_fits_41 rfl (v := x3 + nI 1) (congrArg (fun z => x3 + z) kc_1) (dc_le rfl) (ls' := [some (.ref 55), some (.int x1), some (.int (nI 0)), some (.int (x3 + nI 1))]) rfl ?_
        refine dx_goto (pc := 44) hx dX9_fits_44 (tgt := 4) (by decide) ?_
        exact (ih (nI 0) (x3 + nI 1) q h hk)
      · replace h := (if_neg c13).symm.trans h
        refine dx_iload_n (pc := 16) hx dX9_fits_16 rfl ?_
        refine dx_aload_n (pc := 17) hx dX9_fits_17 rfl ?_
        refine dx_getR (r := 61) (pc := 18) hx dX9_fits_18 f_X9_25 rfl rfl ?_
        refine dx_iload_n (pc := 21) hx dX9_fits_21 rfl ?_
        by_cases g22 : x3 < 0 ∨ 8 ≤ x3.toNatClampNeg
        · cases (if_pos g22).symm.trans h
        replace h := (if_neg g22).symm.trans h
        refine dx_iald (pc := 22) hx dX9_fits_22 rfl g22 ?_
        obtain ⟨r23, h23, h⟩ := Option.bind_eq_some_iff.mp h
        refine dx_callSir (pc := 23) (As := [.int x1, .int (σ.1 61 x3.toNatClampNeg)]) (rest := []) hx dX9_fits_23 k_X9_285 rfl (dc_le rfl) (dc_le rfl) (dc_le rfl) (dc_le rfl) rfl (th_X9_together h23) ?_
        refine dx_aload_n (pc := 26) hx dX9_fits_26 rfl ?_
        refine dx_getR (r := 62) (pc := 27) hx dX9_fits_27 f_X9_28 rfl rfl ?_
        refine dx_iload_n (pc := 30) hx dX9_fits_30 rfl ?_
        by_cases g31 : x3 < 0 ∨ 8 ≤ x3.toNatClampNeg
        · cases (if_pos g31).symm.trans h
        replace h := (if_neg g31).symm.trans h
        refine dx_iald (pc := 31) hx dX9_fits_31 rfl g31 ?_
        refine dx_icmp_ne (pc := 32) hx dX9_fits_32 (tgt := 39) (by decide) (fun c32 => ?_) (fun c32 => ?_)
        · replace h := (if_neg c32).symm.trans h
          refine dx_iconst (pc := 39) hx dX9_fits_39 kc_0 ?_
          refine dx_istore_n (pc := 40) hx dX9_fits_40 (dc_le rfl) (ls' := [some (.ref 55), some (.int x1), some (.int (nI 0)), some (.int x3)]) rfl ?_
          refine dx_iinc (pc := 41) hx dX9_fits_41 rfl (v := x3 + nI 1) (congrArg (fun z => x3 + z) kc_1) (dc_le rfl) (ls' := [some (.ref 55), some (.int x1), some (.int (nI 0)), some (.int (x3 + nI 1))]) rfl ?_
          refine dx_goto (pc := 44) hx dX9_fits_44 (tgt := 4) (by decide) ?_
          exact (ih (nI 0) (x3 + nI 1) q h hk)
        · replace h := (if_pos c32).symm.trans h
          refine dx_iconst (pc := 35) hx dX9_fits_35 kc_1 ?_
          refine dx_goto (pc := 36) hx dX9_fits_36 (tgt := 40) (by decide) ?_
          refine dx_istore_n (pc := 40) hx dX9_fits_40 (dc_le rfl) (ls' := [some (.ref 55), some (.int x1), some (.int (nI 1)), some (.int x3)]) rfl ?_
          refine dx_iinc (pc := 41) hx dX9_fits_41 rfl (v := x3 + nI 1) (congrArg (fun z => x3 + z) kc_1) (dc_le rfl) (ls' := [some (.ref 55), some (.int x1), some (.int (nI 1)), some (.int (x3 + nI 1))]) rfl ?_
          refine dx_goto (pc := 44) hx dX9_fits_44 (tgt := 4) (by decide) ?_
          exact (ih (nI 1) (x3 + nI 1) q h hk)
set_option maxHeartbeats 4000000 in
set_option maxRecDepth 100000 in
theorem th_X9_fits {σ : dc_HP} {x1 : Int32} {r : Int32} (h : fn_X9_fits σ x1 = some r) : dc_G mX9_fits [.ref 55, .int x1] σ (dc_qi (fun x τ => x = r ∧ τ = σ)) := by
  intro κ hO
  have hx : dc_Cx κ RX9 cX9_fits 4 1 23 := hO.1
  show dc_X κ 0 [some (.ref 55), some (.int x1), none, none] [] σ
  unfold fn_X9_fits at h
  refine dx_iconst (pc := 0) hx dX9_fits_0 kc_1 ?_
  refine dx_istore_n (pc := 1) hx dX9_fits_1 (dc_le rfl) (ls' := [some (.ref 55), some (.int x1), some (.int (nI 1)), none]) rfl ?_
  refine dx_iconst (pc := 2) hx dX9_fits_2 kc_0 ?_
  refine dx_istore_n (pc := 3) hx dX9_fits_3 (dc_le rfl) (ls' := [some (.ref 55), some (.int x1), some (.int (nI 1)), some (.int (nI 0))]) rfl ?_
  obtain ⟨q4, h4, h⟩ := Option.bind_eq_some_iff.mp h
  refine (tl_X9_fits_L4 hO σ x1 200 (nI 1) (nI 0) q4 h4 ?_)
  refine dx_iload_n (pc := 47) hx dX9_fits_47 rfl ?_
  by_cases g48 : q4 = 0 ∨ q4 = 1
  rotate_left
  · cases (if_neg g48).symm.trans h
  replace h := (if_pos g48).symm.trans h
  obtain rfl := Option.some.inj h
  exact dx_zret hO (pc := 48) dX9_fits_48 rfl (dc_bn g48) ⟨_, rfl, rfl, rfl⟩
set_option maxHeartbeats 4000000 in
set_option maxRecDepth 100000 in
theorem tl_X9_holds_L4 {κ : dc_KX} {Q : Option Value → dc_HP → Prop} (hO : dc_Ok κ mX9_holds Q) (σ : dc_HP) (x1 : Int32) : ∀ (n : Nat) (x2 : Int32) (x3 : Int32) (q : (Int32) ⊕ (Int32)), fn_X9_holds_L4 σ x1 n x2 x3 = some q → ∀ (hk : ∀ m : Int32, q = .inr m → dc_X κ 34 [some (.ref 55), some (.int x1), some (.int m), none] [] σ) (hr : ∀ r : Int32, q = .inl r → Q (some (.int r)) σ), dc_X κ 4 [some (.ref 55), some (.int x1), some (.int x2), some (.int x3)] [] σ := by
  have hx : dc_Cx κ RX9 cX9_holds 4 2 46 := hO.1
  intro n
  induction n with
  | zero =>
    intro x2 x3 q h
    cases h
  | succ n ih =>
    intro x2 x3 q h hk hr
    unfold fn_X9_holds_L4 at h
    refine dx_iload_n (pc := 4) hx dX9_holds_4 rfl ?_
    refine dx_bipush (pc := 5) hx dX9_holds_5 kb_100 ?_
    refine dx_icmp_ge (pc := 7) hx dX9_holds_7 (tgt := 34) (by decide) (fun c7 => ?_) (fun c7 => ?_)
    · replace h := (if_pos c7).symm.trans h
      obtain rfl := Option.some.inj h
      exact dx_wk [true, true, true, false] <| (hk x2 rfl)
    · replace h := (if_neg c7).symm.trans h
      refine dx_aload_n (pc := 10) hx dX9_holds_10 rfl ?_
      refine dx_iload_n (pc := 11) hx dX9_holds_11 rfl ?_
      obtain ⟨r12, h12, h⟩ := Option.bind_eq_some_iff.mp h
      refine dx_callVir (pc := 12) (As := [.int x3]) (rest := []) hx dX9_holds_12 k_X9_288 rfl rfl rfl rfl (dc_le rfl) (dc_le rfl) (dc_le rfl) (dc_le rfl) rfl (th_X9_fits h12) ?_
      refine dx_if_eq (pc := 15) hx dX9_holds_15 (tgt := 28) (by decide) (fun c15 => ?_) (fun c15 => ?_)
      · replace h := (if_pos c15).symm.trans h
        refine dx_iinc (pc := 28) hx dX9_holds_28 rfl (v := x3 + nI 1) (congrArg (fun z => x3 + z) kc_1) (dc_le rfl) (ls' := [some (.ref 55), some (.int x1), some (.int x2), some (.int (x3 + nI 1))]) rfl ?_
        refine dx_goto (pc := 31) hx dX9_holds_31 (tgt := 4) (by decide) ?_
        exact (ih x2 (x3 + nI 1) q h hk hr)
      · replace h := (if_neg c15).symm.trans h
        refine dx_iload_n (pc := 18) hx dX9_holds_18 rfl ?_
        refine dx_iload_n (pc := 19) hx dX9_holds_19 rfl ?_
        refine dx_icmp_ne (pc := 20) hx dX9_holds_20 (tgt := 25) (by decide) (fun c20 => ?_) (fun c20 => ?_)
        · replace h := (if_neg c20).symm.trans h
          refine dx_iinc (pc := 25) hx dX9_holds_25 rfl (v := x2 + nI 1) (congrArg (fun z => x2 + z) kc_1) (dc_le rfl) (ls' := [some (.ref 55), some (.int x1), some (.int (x2 + nI 1)), some (.int x3)]) rfl ?_
          refine dx_iinc (pc := 28) hx dX9_holds_28 rfl (v := x3 + nI 1) (congrArg (fun z => x3 + z) kc_1) (dc_le rfl) (ls' := [some (.ref 55), some (.int x1), some (.int (x2 + nI 1)), some (.int (x3 + nI 1))]) rfl ?_
          refine dx_goto (pc := 31) hx dX9_holds_31 (tgt := 4) (by decide) ?_
          exact (ih (x2 + nI 1) (x3 + nI 1) q h hk hr)
        · replace h := (if_pos c20).symm.trans h
          refine dx_iload_n (pc := 23) hx dX9_holds_23 rfl ?_
          obtain rfl := Option.some.inj h
          exact dx_iret hO (pc := 24) dX9_holds_24 rfl (hr x3 rfl)
set_option maxHeartbeats 4000000 in
set_option maxRecDepth 100000 in
theorem th_X9_holds {σ : dc_HP} {x1 : Int32} {r : Int32} (h : fn_X9_holds σ x1 = some r) : dc_G mX9_holds [.ref 55, .int x1] σ (dc_qi (fun x τ => x = r ∧ τ = σ)) := by
  intro κ hO
  have hx : dc_Cx κ RX9 cX9_holds 4 2 46 := hO.1
  show dc_X κ 0 [some (.ref 55), some (.int x1), none, none] [] σ
  unfold fn_X9_holds at h
  refine dx_iconst (pc := 0) hx dX9_holds_0 kc_0 ?_
  refine dx_istore_n (pc := 1) hx dX9_holds_1 (dc_le rfl) (ls' := [some (.ref 55), some (.int x1), some (.int (nI 0)), none]) rfl ?_
  refine dx_iconst (pc := 2) hx dX9_holds_2 kc_0 ?_
  refine dx_istore_n (pc := 3) hx dX9_holds_3 (dc_le rfl) (ls' := [some (.ref 55), some (.int x1), some (.int (nI 0)), some (.int (nI 0))]) rfl ?_
  obtain ⟨q9, h4, h⟩ := Option.bind_eq_some_iff.mp h
  refine (tl_X9_holds_L4 hO σ x1 200 (nI 0) (nI 0) q9 h4 (fun q4 e9 => ?_) (fun r9 e9 => ?_))
  rotate_left
  · subst e9
    obtain rfl := Option.some.inj h
    exact ⟨_, rfl, rfl, rfl⟩
  subst e9
  replace h := dc_inr h
  refine dx_iload_n (pc := 34) hx dX9_holds_34 rfl ?_
  refine dx_iconst (pc := 35) hx dX9_holds_35 kc_m1 ?_
  refine dx_icmp_ne (pc := 36) hx dX9_holds_36 (tgt := 43) (by decide) (fun c36 => ?_) (fun c36 => ?_)
  · replace h := (if_neg c36).symm.trans h
    refine dx_bipush (pc := 43) hx dX9_holds_43 kb_m6 ?_
    obtain rfl := Option.some.inj h
    exact dx_iret hO (pc := 45) dX9_holds_45 rfl ⟨_, rfl, rfl, rfl⟩
  · replace h := (if_pos c36).symm.trans h
    refine dx_iload_n (pc := 39) hx dX9_holds_39 rfl ?_
    refine dx_goto (pc := 40) hx dX9_holds_40 (tgt := 45) (by decide) ?_
    obtain rfl := Option.some.inj h
    exact dx_iret hO (pc := 45) dX9_holds_45 rfl ⟨_, rfl, rfl, rfl⟩
set_option maxHeartbeats 4000000 in
set_option maxRecDepth 100000 in
theorem tl_X9_mostLeft_L4 {κ : dc_KX} {Q : Option Value → dc_HP → Prop} (hO : dc_Ok κ mX9_mostLeft Q) (x1 : Int32) (x2 : Int32) : ∀ (n : Nat) (x3 : Int32) (σ : dc_HP) (q : dc_HP), fn_X9_mostLeft_L4 x1 x2 n x3 σ = some q → ∀ (hk : dc_X κ 23 [some (.ref 55), some (.int x1), some (.int x2), none, none] [] q), dc_X κ 4 [some (.ref 55), some (.int x1), some (.int x2), some (.int x3), none] [] σ := by
  have hx : dc_Cx κ RX9 cX9_mostLeft 5 2 46 := hO.1
  intro n
  induction n with
  | zero =>
    intro x3 σ q h
    cases h
  | succ n ih =>
    intro x3 σ q h hk
    unfold fn_X9_mostLeft_L4 at h
    refine dx_iload_n (pc := 4) hx dX9_mostLeft_4 rfl ?_
    refine dx_bipush (pc := 5) hx dX9_mostLeft_5 kb_19 ?_
    refine dx_icmp_ge (pc := 7) hx dX9_mostLeft_7 (tgt := 23) (by decide) (fun c7 => ?_) (fun c7 => ?_)
    · replace h := (if_pos c7).symm.trans h
      obtain rfl := Option.some.inj h
      exact dx_wk [true, true, true, false, true] <| hk
    · replace h := (if_neg c7).symm.trans h
      refine dx_aload_n (pc := 10) hx dX9_mostLeft_10 rfl ?_
      refine dx_getR (r := 72) (pc := 11) hx dX9_mostLeft_11 f_X9_58 rfl rfl ?_
      refine dx_iload_n (pc := 14) hx dX9_mostLeft_14 rfl ?_
      refine dx_iconst (pc := 15) hx dX9_mostLeft_15 kc_0 ?_
      by_cases g16 : x3 < 0 ∨ 19 ≤ x3.toNatClampNeg
      · cases (if_pos g16).symm.trans h
      replace h := (if_neg g16).symm.trans h
      refine dx_iast (pc := 16) hx dX9_mostLeft_16 rfl g16 ?_
      refine dx_nm (fun s16 e16 => ?_)
      replace h := dc_lt e16 h
      refine dx_iinc (pc := 17) hx dX9_mostLeft_17 rfl (v := x3 + nI 1) (congrArg (fun z => x3 + z) kc_1) (dc_le rfl) (ls' := [some (.ref 55), some (.int x1), some (.int x2), some (.int (x3 + nI 1)), none]) rfl ?_
      refine dx_goto (pc := 20) hx dX9_mostLeft_20 (tgt := 4) (by decide) ?_
      exact (ih (x3 + nI 1) s16 q h hk)
set_option maxHeartbeats 4000000 in
set_option maxRecDepth 100000 in
theorem tl_X9_mostLeft_L25 {κ : dc_KX} {Q : Option Value → dc_HP → Prop} (hO : dc_Ok κ mX9_mostLeft Q) (x1 : Int32) : ∀ (n : Nat) (x2 : Int32) (x3 : Int32) (σ : dc_HP) (q : Int32 × dc_HP), fn_X9_mostLeft_L25 x1 n x2 x3 σ = some q → ∀ (hk : dc_X κ 86 [some (.ref 55), some (.int x1), some (.int q.1), none, none] [] q.2), dc_X κ 25 [some (.ref 55), some (.int x1), some (.int x2), some (.int x3), none] [] σ := by
  have hx : dc_Cx κ RX9 cX9_mostLeft 5 2 46 := hO.1
  intro n
  induction n with
  | zero =>
    intro x2 x3 σ q h
    cases h
  | succ n ih =>
    intro x2 x3 σ q h hk
    unfold fn_X9_mostLeft_L25 at h
    refine dx_iload_n (pc := 25) hx dX9_mostLeft_25 rfl ?_
    refine dx_bipush (pc := 26) hx dX9_mostLeft_26 kb_100 ?_
    refine dx_icmp_ge (pc := 28) hx dX9_mostLeft_28 (tgt := 86) (by decide) (fun c28 => ?_) (fun c28 => ?_)
    · replace h := (if_pos c28).symm.trans h
      obtain rfl := Option.some.inj h
      exact dx_wk [true, true, true, false, true] <| hk
    · replace h := (if_neg c28).symm.trans h
      refine dx_aload_n (pc := 31) hx dX9_mostLeft_31 rfl ?_
      refine dx_iload_n (pc := 32) hx dX9_mostLeft_32 rfl ?_
      obtain ⟨r33, h33, h⟩ := Option.bind_eq_some_iff.mp h
      refine dx_callVir (pc := 33) (As := [.int x3]) (rest := []) hx dX9_mostLeft_33 k_X9_288 rfl rfl rfl rfl (dc_le rfl) (dc_le rfl) (dc_le rfl) (dc_le rfl) rfl (th_X9_fits h33) ?_
      refine dx_if_eq (pc := 36) hx dX9_mostLeft_36 (tgt := 80) (by decide) (fun c36 => ?_) (fun c36 => ?_)
      · replace h := (if_pos c36).symm.trans h
        refine dx_iinc (pc := 80) hx dX9_mostLeft_80 rfl (v := x3 + nI 1) (congrArg (fun z => x3 + z) kc_1) (dc_le rfl) (ls' := [some (.ref 55), some (.int x1), some (.int x2), some (.int (x3 + nI 1)), none]) rfl ?_
        refine dx_goto (pc := 83) hx dX9_mostLeft_83 (tgt := 25) (by decide) ?_
        exact (ih x2 (x3 + nI 1) σ q h hk)
      · replace h := (if_neg c36).symm.trans h
        refine dx_iload_n (pc := 39) hx dX9_mostLeft_39 rfl ?_
        refine dx_iload_n (pc := 40) hx dX9_mostLeft_40 rfl ?_
        obtain ⟨r41, h41, h⟩ := Option.bind_eq_some_iff.mp h
        refine dx_callSir (pc := 41) (As := [.int x3, .int x1]) (rest := []) hx dX9_mostLeft_41 k_X9_285 rfl (dc_le rfl) (dc_le rfl) (dc_le rfl) (dc_le rfl) rfl (th_X9_together h41) ?_
        refine dx_istore (pc := 44) hx dX9_mostLeft_44 (dc_le rfl) (ls' := [some (.ref 55), some (.int x1), some (.int x2), some (.int x3), some (.int r41)]) rfl ?_
        refine dx_aload_n (pc := 46) hx dX9_mostLeft_46 rfl ?_
        refine dx_getR (r := 72) (pc := 47) hx dX9_mostLeft_47 f_X9_58 rfl rfl ?_
        refine dx_iload (pc := 50) hx dX9_mostLeft_50 rfl ?_
        refine dx_dup2 (pc := 52) hx dX9_mostLeft_52 rfl rfl ?_
        by_cases g53 : r41 < 0 ∨ 19 ≤ r41.toNatClampNeg
        · cases (if_pos g53).symm.trans h
        replace h := (if_neg g53).symm.trans h
        refine dx_iald (pc := 53) hx dX9_mostLeft_53 rfl g53 ?_
        refine dx_iconst (pc := 54) hx dX9_mostLeft_54 kc_1 ?_
        refine dx_iadd (pc := 55) hx dX9_mostLeft_55 ?_
        by_cases g56 : r41 < 0 ∨ 19 ≤ r41.toNatClampNeg
        · cases (if_pos g56).symm.trans h
        replace h := (if_neg g56).symm.trans h
        refine dx_iast (pc := 56) hx dX9_mostLeft_56 rfl g56 ?_
        refine dx_nm (fun s56 e56 => ?_)
        replace h := dc_lt e56 h
        refine dx_aload_n (pc := 57) hx dX9_mostLeft_57 rfl ?_
        refine dx_getR (r := 72) (pc := 58) hx dX9_mostLeft_58 f_X9_58 rfl rfl ?_
        refine dx_iload (pc := 61) hx dX9_mostLeft_61 rfl ?_
        by_cases g63 : r41 < 0 ∨ 19 ≤ r41.toNatClampNeg
        · cases (if_pos g63).symm.trans h
        replace h := (if_neg g63).symm.trans h
        refine dx_iald (pc := 63) hx dX9_mostLeft_63 rfl g63 ?_
        refine dx_iload_n (pc := 64) hx dX9_mostLeft_64 rfl ?_
        refine dx_icmp_le (pc := 65) hx dX9_mostLeft_65 (tgt := 78) (by decide) (fun c65 => ?_) (fun c65 => ?_)
        · replace h := (if_pos c65).symm.trans h
          refine dx_iload_n (pc := 78) hx dX9_mostLeft_78 rfl ?_
          refine dx_istore_n (pc := 79) hx dX9_mostLeft_79 (dc_le rfl) (ls' := [some (.ref 55), some (.int x1), some (.int x2), some (.int x3), some (.int r41)]) rfl ?_
          refine dx_iinc (pc := 80) hx dX9_mostLeft_80 rfl (v := x3 + nI 1) (congrArg (fun z => x3 + z) kc_1) (dc_le rfl) (ls' := [some (.ref 55), some (.int x1), some (.int x2), some (.int (x3 + nI 1)), some (.int r41)]) rfl ?_
          refine dx_goto (pc := 83) hx dX9_mostLeft_83 (tgt := 25) (by decide) ?_
          exact dx_wk [true, true, true, true, false] <| (ih x2 (x3 + nI 1) s56 q h hk)
        · replace h := (if_neg c65).symm.trans h
          refine dx_aload_n (pc := 68) hx dX9_mostLeft_68 rfl ?_
          refine dx_getR (r := 72) (pc := 69) hx dX9_mostLeft_69 f_X9_58 rfl rfl ?_
          refine dx_iload (pc := 72) hx dX9_mostLeft_72 rfl ?_
          by_cases g74 : r41 < 0 ∨ 19 ≤ r41.toNatClampNeg
          · cases (if_pos g74).symm.trans h
          replace h := (if_neg g74).symm.trans h
          refine dx_iald (pc := 74) hx dX9_mostLeft_74 rfl g74 ?_
          refine dx_goto (pc := 75) hx dX9_mostLeft_75 (tgt := 79) (by decide) ?_
          refine dx_istore_n (pc := 79) hx dX9_mostLeft_79 (dc_le rfl) (ls' := [some (.ref 55), some (.int x1), some (.int (s56.1 72 r41.toNatClampNeg)), some (.int x3), some (.int r41)]) rfl ?_
          refine dx_iinc (pc := 80) hx dX9_mostLeft_80 rfl (v := x3 + nI 1) (congrArg (fun z => x3 + z) kc_1) (dc_le rfl) (ls' := [some (.ref 55), some (.int x1), some (.int (s56.1 72 r41.toNatClampNeg)), some (.int (x3 + nI 1)), some (.int r41)]) rfl ?_
          refine dx_goto (pc := 83) hx dX9_mostLeft_83 (tgt := 25) (by decide) ?_
          exact dx_wk [true, true, true, true, false] <| (ih (s56.1 72 r41.toNatClampNeg) (x3 + nI 1) s56 q h hk)
set_option maxHeartbeats 4000000 in
set_option maxRecDepth 100000 in
theorem th_X9_mostLeft {σ : dc_HP} {x1 : Int32} {r : Int32 × dc_HP} (h : fn_X9_mostLeft σ x1 = some r) : dc_G mX9_mostLeft [.ref 55, .int x1] σ (dc_qi (fun x τ => x = r.1 ∧ τ = r.2)) := by
  intro κ hO
  have hx : dc_Cx κ RX9 cX9_mostLeft 5 2 46 := hO.1
  show dc_X κ 0 [some (.ref 55), some (.int x1), none, none, none] [] σ
  unfold fn_X9_mostLeft at h
  refine dx_iconst (pc := 0) hx dX9_mostLeft_0 kc_0 ?_
  refine dx_istore_n (pc := 1) hx dX9_mostLeft_1 (dc_le rfl) (ls' := [some (.ref 55), some (.int x1), some (.int (nI 0)), none, none]) rfl ?_
  refine dx_iconst (pc := 2) hx dX9_mostLeft_2 kc_0 ?_
  refine dx_istore_n (pc := 3) hx dX9_mostLeft_3 (dc_le rfl) (ls' := [some (.ref 55), some (.int x1), some (.int (nI 0)), some (.int (nI 0)), none]) rfl ?_
  obtain ⟨q4, h4, h⟩ := Option.bind_eq_some_iff.mp h
  refine (tl_X9_mostLeft_L4 hO x1 (nI 0) 200 (nI 0) σ q4 h4 ?_)
  refine dx_iconst (pc := 23) hx dX9_mostLeft_23 kc_0 ?_
  refine dx_istore_n (pc := 24) hx dX9_mostLeft_24 (dc_le rfl) (ls' := [some (.ref 55), some (.int x1), some (.int (nI 0)), some (.int (nI 0)), none]) rfl ?_
  obtain ⟨q25, h25, h⟩ := Option.bind_eq_some_iff.mp h
  refine (tl_X9_mostLeft_L25 hO x1 200 (nI 0) (nI 0) q4 q25 h25 ?_)
  refine dx_iload_n (pc := 86) hx dX9_mostLeft_86 rfl ?_
  obtain rfl := Option.some.inj h
  exact dx_iret hO (pc := 87) dX9_mostLeft_87 rfl ⟨_, rfl, rfl, rfl⟩
set_option maxHeartbeats 4000000 in
set_option maxRecDepth 100000 in
theorem tl_X9_ask_L24 {κ : dc_KX} {Q : Option Value → dc_HP → Prop} (hO : dc_Ok κ mX9_ask Q) (x1 : Int32) : ∀ (n : Nat) (x2 : Int32) (x3 : Int32) (x4 : Int32) (σ : dc_HP) (q : Int32 × Int32 × dc_HP), fn_X9_ask_L24 x1 n x2 x3 x4 σ = some q → ∀ (hk : dc_X κ 71 [some (.ref 55), some (.int x1), some (.int q.1), some (.int q.2.1), none, none] [] q.2.2), dc_X κ 24 [some (.ref 55), some (.int x1), some (.int x2), some (.int x3), some (.int x4), none] [] σ := by
  have hx : dc_Cx κ RX9 cX9_ask 6 3 70 := hO.1
  intro n
  induction n with
  | zero =>
    intro x2 x3 x4 σ q h
    cases h
  | succ n ih =>
    intro x2 x3 x4 σ q h hk
    unfold fn_X9_ask_L24 at h
    refine dx_iload (pc := 24) hx dX9_ask_24 rfl ?_
    refine dx_bipush (pc := 26) hx dX9_ask_26 kb_9 ?_
    refine dx_icmp_gt (pc := 28) hx dX9_ask_28 (tgt := 71) (by decide) (fun c28 => ?_) (fun c28 => ?_)
    · replace h := (if_pos c28).symm.trans h
      obtain rfl := Option.some.inj h
      exact dx_wk [true, true, true, true, false, true] <| hk
    · replace h := (if_neg c28).symm.trans h
      refine dx_aload_n (pc := 31) hx dX9_ask_31 rfl ?_
      refine dx_iload (pc := 32) hx dX9_ask_32 rfl ?_
      obtain ⟨r34, h34, h⟩ := Option.bind_eq_some_iff.mp h
      refine dx_callViw (pc := 34) (As := [.int x4]) (rest := []) hx dX9_ask_34 k_X9_291 rfl rfl rfl rfl (dc_le rfl) (dc_le rfl) (dc_le rfl) (dc_le rfl) rfl (th_X9_mostLeft h34) ?_
      refine dx_istore (pc := 37) hx dX9_ask_37 (dc_le rfl) (ls' := [some (.ref 55), some (.int x1), some (.int x2), some (.int x3), some (.int x4), some (.int r34.1)]) rfl ?_
      refine dx_iload (pc := 39) hx dX9_ask_39 rfl ?_
      refine dx_iload_n (pc := 41) hx dX9_ask_41 rfl ?_
      obtain ⟨q42, hr, h⟩ := Option.bind_eq_some_iff.mp h
      have hk : dc_X κ 51 [some (.ref 55), some (.int x1), some (.int x2), some (.int x3), some (.int x4), some (.int r34.1)] [.int q42] r34.2 := by
        clear hr
        refine dx_istore_n (pc := 51) hx dX9_ask_51 (dc_le rfl) (ls' := [some (.ref 55), some (.int x1), some (.int q42), some (.int x3), some (.int x4), some (.int r34.1)]) rfl ?_
        refine dx_iload (pc := 52) hx dX9_ask_52 rfl ?_
        refine dx_iload_n (pc := 54) hx dX9_ask_54 rfl ?_
        refine dx_icmp_ge (pc := 55) hx dX9_ask_55 (tgt := 63) (by decide) (fun c55 => ?_) (fun c55 => ?_)
        · replace h := (if_pos c55).symm.trans h
          refine dx_iload_n (pc := 63) hx dX9_ask_63 rfl ?_
          refine dx_istore_n (pc := 64) hx dX9_ask_64 (dc_le rfl) (ls' := [some (.ref 55), some (.int x1), some (.int q42), some (.int x3), some (.int x4), some (.int r34.1)]) rfl ?_
          refine dx_iinc (pc := 65) hx dX9_ask_65 rfl (v := x4 + nI 1) (congrArg (fun z => x4 + z) kc_1) (dc_le rfl) (ls' := [some (.ref 55), some (.int x1), some (.int q42), some (.int x3), some (.int (x4 + nI 1)), some (.int r34.1)]) rfl ?_
          refine dx_goto (pc := 68) hx dX9_ask_68 (tgt := 24) (by decide) ?_
          exact dx_wk [true, true, true, true, true, false] <| (ih q42 x3 (x4 + nI 1) r34.2 q h hk)
        · replace h := (if_neg c55).symm.trans h
          refine dx_iload (pc := 58) hx dX9_ask_58 rfl ?_
          refine dx_goto (pc := 60) hx dX9_ask_60 (tgt := 64) (by decide) ?_
          refine dx_istore_n (pc := 64) hx dX9_ask_64 (dc_le rfl) (ls' := [some (.ref 55), some (.int x1), some (.int q42), some (.int r34.1), some (.int x4), some (.int r34.1)]) rfl ?_
          refine dx_iinc (pc := 65) hx dX9_ask_65 rfl (v := x4 + nI 1) (congrArg (fun z => x4 + z) kc_1) (dc_le rfl) (ls' := [some (.ref 55), some (.int x1), some (.int q42), some (.int r34.1), some (.int (x4 + nI 1)), some (.int r34.1)]) rfl ?_
          refine dx_goto (pc := 68) hx dX9_ask_68 (tgt := 24) (by decide) ?_
          exact dx_wk [true, true, true, true, true, false] <| (ih q42 r34.1 (x4 + nI 1) r34.2 q h hk)
      replace h := hr
      clear hr
      refine dx_icmp_ge (pc := 42) hx dX9_ask_42 (tgt := 50) (by decide) (fun c42 => ?_) (fun c42 => ?_)
      · replace h := (if_pos c42).symm.trans h
        refine dx_iload_n (pc := 50) hx dX9_ask_50 rfl ?_
        obtain rfl := Option.some.inj h
        exact hk
      · replace h := (if_neg c42).symm.trans h
        refine dx_iload (pc := 45) hx dX9_ask_45 rfl ?_
        refine dx_goto (pc := 47) hx dX9_ask_47 (tgt := 51) (by decide) ?_
        obtain rfl := Option.some.inj h
        exact hk
set_option maxHeartbeats 4000000 in
set_option maxRecDepth 100000 in
theorem th_X9_ask {σ : dc_HP} {x1 : Int32} {r : Int32 × dc_HP} (h : fn_X9_ask σ x1 = some r) : dc_G mX9_ask [.ref 55, .int x1] σ (dc_qi (fun x τ => x = r.1 ∧ τ = r.2)) := by
  intro κ hO
  have hx : dc_Cx κ RX9 cX9_ask 6 3 70 := hO.1
  show dc_X κ 0 [some (.ref 55), some (.int x1), none, none, none, none] [] σ
  unfold fn_X9_ask at h
  refine dx_iload_n (pc := 0) hx dX9_ask_0 rfl ?_
  refine dx_i2l (pc := 1) hx dX9_ask_1 ?_
  refine dx_lconst (pc := 2) hx dX9_ask_2 (v := (0 : Int64)) (by decide) ?_
  refine dx_lconst (pc := 3) hx dX9_ask_3 (v := (1 : Int64)) (by decide) ?_
  obtain ⟨r4, h4, h⟩ := Option.bind_eq_some_iff.mp h
  refine dx_callSir (pc := 4) (As := [.long x1.toInt64, .long ((0 : Int64)), .long ((1 : Int64))]) (rest := []) hx dX9_ask_4 k_X9_77 rfl (dc_le rfl) (dc_le rfl) (dc_le rfl) (dc_le rfl) rfl (th_X9_in h4) ?_
  refine dx_if_ne (pc := 7) hx dX9_ask_7 (tgt := 13) (by decide) (fun c7 => ?_) (fun c7 => ?_)
  · replace h := (if_neg c7).symm.trans h
    refine dx_iconst (pc := 13) hx dX9_ask_13 kc_1 ?_
    refine dx_istore_n (pc := 14) hx dX9_ask_14 (dc_le rfl) (ls' := [some (.ref 55), some (.int x1), some (.int (nI 1)), none, none, none]) rfl ?_
    refine dx_aload_n (pc := 15) hx dX9_ask_15 rfl ?_
    refine dx_iconst (pc := 16) hx dX9_ask_16 kc_1 ?_
    obtain ⟨r17, h17, h⟩ := Option.bind_eq_some_iff.mp h
    refine dx_callViw (pc := 17) (As := [.int (nI 1)]) (rest := []) hx dX9_ask_17 k_X9_291 rfl rfl rfl rfl (dc_le rfl) (dc_le rfl) (dc_le rfl) (dc_le rfl) rfl (th_X9_mostLeft h17) ?_
    refine dx_istore_n (pc := 20) hx dX9_ask_20 (dc_le rfl) (ls' := [some (.ref 55), some (.int x1), some (.int (nI 1)), some (.int r17.1), none, none]) rfl ?_
    refine dx_iconst (pc := 21) hx dX9_ask_21 kc_2 ?_
    refine dx_istore (pc := 22) hx dX9_ask_22 (dc_le rfl) (ls' := [some (.ref 55), some (.int x1), some (.int (nI 1)), some (.int r17.1), some (.int (nI 2)), none]) rfl ?_
    obtain ⟨q24, h24, h⟩ := Option.bind_eq_some_iff.mp h
    refine (tl_X9_ask_L24 hO x1 200 (nI 1) r17.1 (nI 2) r17.2 q24 h24 ?_)
    refine dx_iload_n (pc := 71) hx dX9_ask_71 rfl ?_
    refine dx_if_ne (pc := 72) hx dX9_ask_72 (tgt := 80) (by decide) (fun c72 => ?_) (fun c72 => ?_)
    · replace h := (if_neg c72).symm.trans h
      refine dx_iload_n (pc := 80) hx dX9_ask_80 rfl ?_
      refine dx_if_ne (pc := 81) hx dX9_ask_81 (tgt := 88) (by decide) (fun c81 => ?_) (fun c81 => ?_)
      · replace h := (if_neg c81).symm.trans h
        refine dx_iload_n (pc := 88) hx dX9_ask_88 rfl ?_
        obtain rfl := Option.some.inj h
        exact dx_iret hO (pc := 89) dX9_ask_89 rfl ⟨_, rfl, rfl, rfl⟩
      · replace h := (if_pos c81).symm.trans h
        refine dx_iload_n (pc := 84) hx dX9_ask_84 rfl ?_
        refine dx_goto (pc := 85) hx dX9_ask_85 (tgt := 89) (by decide) ?_
        obtain rfl := Option.some.inj h
        exact dx_iret hO (pc := 89) dX9_ask_89 rfl ⟨_, rfl, rfl, rfl⟩
    · replace h := (if_pos c72).symm.trans h
      refine dx_bipush (pc := 75) hx dX9_ask_75 kb_m6 ?_
      refine dx_goto (pc := 77) hx dX9_ask_77 (tgt := 89) (by decide) ?_
      obtain rfl := Option.some.inj h
      exact dx_iret hO (pc := 89) dX9_ask_89 rfl ⟨_, rfl, rfl, rfl⟩
  · replace h := (if_pos c7).symm.trans h
    refine dx_bipush (pc := 10) hx dX9_ask_10 kb_m2 ?_
    obtain rfl := Option.some.inj h
    exact dx_iret hO (pc := 12) dX9_ask_12 rfl ⟨_, rfl, rfl, rfl⟩
set_option maxHeartbeats 4000000 in
set_option maxRecDepth 100000 in
theorem th_X9_fugueGood {σ : dc_HP} {x1 : Int32} {x2 : Int32} {x3 : Int32} {x4 : Int32} {x5 : Int32} {r : Int32} (h : fn_X9_fugueGood x1 x2 x3 x4 x5 = some r) : dc_G mX9_fugueGood [.ref 55, .int x1, .int x2, .int x3, .int x4, .int x5] σ (dc_qi (fun x τ => x = r ∧ τ = σ)) := by
  intro κ hO
  have hx : dc_Cx κ RX9 cX9_fugueGood 6 1 25 := hO.1
  show dc_X κ 0 [some (.ref 55), some (.int x1), some (.int x2), some (.int x3), some (.int x4), some (.int x5)] [] σ
  unfold fn_X9_fugueGood at h
  refine dx_iload_n (pc := 0) hx dX9_fugueGood_0 rfl ?_
  refine dx_i2l (pc := 1) hx dX9_fugueGood_1 ?_
  refine dx_lconst (pc := 2) hx dX9_fugueGood_2 (v := (0 : Int64)) (by decide) ?_
  refine dx_ldc2 (pc := 3) hx dX9_fugueGood_3 f_X9_112 ?_
  obtain ⟨r6, h6, h⟩ := Option.bind_eq_some_iff.mp h
  refine dx_callSir (pc := 6) (As := [.long x1.toInt64, .long ((0 : Int64)), .long ((9 : Int64))]) (rest := []) hx dX9_fugueGood_6 k_X9_77 rfl (dc_le rfl) (dc_le rfl) (dc_le rfl) (dc_le rfl) rfl (th_X9_in h6) ?_
  refine dx_if_eq (pc := 9) hx dX9_fugueGood_9 (tgt := 66) (by decide) (fun c9 => ?_) (fun c9 => ?_)
  · replace h := (if_pos c9).symm.trans h
    refine dx_iconst (pc := 66) hx dX9_fugueGood_66 kc_0 ?_
    obtain rfl := Option.some.inj h
    exact dx_zret hO (pc := 67) dX9_fugueGood_67 rfl rfl ⟨_, rfl, rfl, rfl⟩
  · replace h := (if_neg c9).symm.trans h
    refine dx_iload_n (pc := 12) hx dX9_fugueGood_12 rfl ?_
    refine dx_i2l (pc := 13) hx dX9_fugueGood_13 ?_
    refine dx_lconst (pc := 14) hx dX9_fugueGood_14 (v := (0 : Int64)) (by decide) ?_
    refine dx_ldc2 (pc := 15) hx dX9_fugueGood_15 f_X9_300 ?_
    obtain ⟨r18, h18, h⟩ := Option.bind_eq_some_iff.mp h
    refine dx_callSir (pc := 18) (As := [.long x2.toInt64, .long ((0 : Int64)), .long ((8 : Int64))]) (rest := []) hx dX9_fugueGood_18 k_X9_77 rfl (dc_le rfl) (dc_le rfl) (dc_le rfl) (dc_le rfl) rfl (th_X9_in h18) ?_
    refine dx_if_eq (pc := 21) hx dX9_fugueGood_21 (tgt := 66) (by decide) (fun c21 => ?_) (fun c21 => ?_)
    · replace h := (if_pos c21).symm.trans h
      refine dx_iconst (pc := 66) hx dX9_fugueGood_66 kc_0 ?_
      obtain rfl := Option.some.inj h
      exact dx_zret hO (pc := 67) dX9_fugueGood_67 rfl rfl ⟨_, rfl, rfl, rfl⟩
    · replace h := (if_neg c21).symm.trans h
      refine dx_iload_n (pc := 24) hx dX9_fugueGood_24 rfl ?_
      refine dx_i2l (pc := 25) hx dX9_fugueGood_25 ?_
      refine dx_lconst (pc := 26) hx dX9_fugueGood_26 (v := (0 : Int64)) (by decide) ?_
      refine dx_ldc2 (pc := 27) hx dX9_fugueGood_27 f_X9_298 ?_
      obtain ⟨r30, h30, h⟩ := Option.bind_eq_some_iff.mp h
      refine dx_callSir (pc := 30) (As := [.long x3.toInt64, .long ((0 : Int64)), .long ((10 : Int64))]) (rest := []) hx dX9_fugueGood_30 k_X9_77 rfl (dc_le rfl) (dc_le rfl) (dc_le rfl) (dc_le rfl) rfl (th_X9_in h30) ?_
      refine dx_if_eq (pc := 33) hx dX9_fugueGood_33 (tgt := 66) (by decide) (fun c33 => ?_) (fun c33 => ?_)
      · replace h := (if_pos c33).symm.trans h
        refine dx_iconst (pc := 66) hx dX9_fugueGood_66 kc_0 ?_
        obtain rfl := Option.some.inj h
        exact dx_zret hO (pc := 67) dX9_fugueGood_67 rfl rfl ⟨_, rfl, rfl, rfl⟩
      · replace h := (if_neg c33).symm.trans h
        refine dx_iload (pc := 36) hx dX9_fugueGood_36 rfl ?_
        refine dx_i2l (pc := 38) hx dX9_fugueGood_38 ?_
        refine dx_lconst (pc := 39) hx dX9_fugueGood_39 (v := (0 : Int64)) (by decide) ?_
        refine dx_ldc2 (pc := 40) hx dX9_fugueGood_40 f_X9_112 ?_
        obtain ⟨r43, h43, h⟩ := Option.bind_eq_some_iff.mp h
        refine dx_callSir (pc := 43) (As := [.long x4.toInt64, .long ((0 : Int64)), .long ((9 : Int64))]) (rest := []) hx dX9_fugueGood_43 k_X9_77 rfl (dc_le rfl) (dc_le rfl) (dc_le rfl) (dc_le rfl) rfl (th_X9_in h43) ?_
        refine dx_if_eq (pc := 46) hx dX9_fugueGood_46 (tgt := 66) (by decide) (fun c46 => ?_) (fun c46 => ?_)
        · replace h := (if_pos c46).symm.trans h
          refine dx_iconst (pc := 66) hx dX9_fugueGood_66 kc_0 ?_
          obtain rfl := Option.some.inj h
          exact dx_zret hO (pc := 67) dX9_fugueGood_67 rfl rfl ⟨_, rfl, rfl, rfl⟩
        · replace h := (if_neg c46).symm.trans h
          refine dx_iload (pc := 49) hx dX9_fugueGood_49 rfl ?_
          refine dx_i2l (pc := 51) hx dX9_fugueGood_51 ?_
          refine dx_lconst (pc := 52) hx dX9_fugueGood_52 (v := (0 : Int64)) (by decide) ?_
          refine dx_ldc2 (pc := 53) hx dX9_fugueGood_53 f_X9_112 ?_
          obtain ⟨r56, h56, h⟩ := Option.bind_eq_some_iff.mp h
          refine dx_callSir (pc := 56) (As := [.long x5.toInt64, .long ((0 : Int64)), .long ((9 : Int64))]) (rest := []) hx dX9_fugueGood_56 k_X9_77 rfl (dc_le rfl) (dc_le rfl) (dc_le rfl) (dc_le rfl) rfl (th_X9_in h56) ?_
          refine dx_if_eq (pc := 59) hx dX9_fugueGood_59 (tgt := 66) (by decide) (fun c59 => ?_) (fun c59 => ?_)
          · replace h := (if_pos c59).symm.trans h
            refine dx_iconst (pc := 66) hx dX9_fugueGood_66 kc_0 ?_
            obtain rfl := Option.some.inj h
            exact dx_zret hO (pc := 67) dX9_fugueGood_67 rfl rfl ⟨_, rfl, rfl, rfl⟩
          · replace h := (if_neg c59).symm.trans h
            refine dx_iconst (pc := 62) hx dX9_fugueGood_62 kc_1 ?_
            refine dx_goto (pc := 63) hx dX9_fugueGood_63 (tgt := 67) (by decide) ?_
            obtain rfl := Option.some.inj h
            exact dx_zret hO (pc := 67) dX9_fugueGood_67 rfl rfl ⟨_, rfl, rfl, rfl⟩
set_option maxHeartbeats 4000000 in
set_option maxRecDepth 100000 in
theorem th_X9_sung {σ : dc_HP} {x1 : Int32} {x2 : Int32} {r : Int64} (h : fn_X9_sung σ x1 x2 = some r) : dc_G mX9_sung [.ref 55, .int x1, .int x2] σ (dc_ql (fun x τ => x = r ∧ τ = σ)) := by
  intro κ hO
  have hx : dc_Cx κ RX9 cX9_sung 3 0 0 := hO.1
  show dc_X κ 0 [some (.ref 55), some (.int x1), some (.int x2)] [] σ
  unfold fn_X9_sung at h
  refine dx_iload_n (pc := 0) hx dX9_sung_0 rfl ?_
  refine dx_if_ne (pc := 1) hx dX9_sung_1 (tgt := 15) (by decide) (fun c1 => ?_) (fun c1 => ?_)
  · replace h := (if_neg c1).symm.trans h
    refine dx_iload_n (pc := 15) hx dX9_sung_15 rfl ?_
    refine dx_i2l (pc := 16) hx dX9_sung_16 ?_
    refine dx_aload_n (pc := 17) hx dX9_sung_17 rfl ?_
    refine dx_getR (r := 73) (pc := 18) hx dX9_sung_18 f_X9_61 rfl rfl ?_
    refine dx_iload_n (pc := 21) hx dX9_sung_21 rfl ?_
    refine dx_iconst (pc := 22) hx dX9_sung_22 kc_1 ?_
    refine dx_isub (pc := 23) hx dX9_sung_23 ?_
    by_cases g24 : (x1 - (nI 1)) < 0 ∨ 10 ≤ (x1 - (nI 1)).toNatClampNeg
    · cases (if_pos g24).symm.trans h
    replace h := (if_neg g24).symm.trans h
    refine dx_lald (pc := 24) hx dX9_sung_24 rfl g24 ?_
    refine dx_lmul (pc := 25) hx dX9_sung_25 ?_
    refine dx_ldc2 (pc := 26) hx dX9_sung_26 f_X9_298 ?_
    refine dx_iload_n (pc := 29) hx dX9_sung_29 rfl ?_
    refine dx_i2l (pc := 30) hx dX9_sung_30 ?_
    refine dx_lsub (pc := 31) hx dX9_sung_31 ?_
    refine dx_aload_n (pc := 32) hx dX9_sung_32 rfl ?_
    refine dx_getR (r := 73) (pc := 33) hx dX9_sung_33 f_X9_61 rfl rfl ?_
    refine dx_iload_n (pc := 36) hx dX9_sung_36 rfl ?_
    refine dx_bipush (pc := 37) hx dX9_sung_37 kb_9 ?_
    refine dx_icmp_ge (pc := 39) hx dX9_sung_39 (tgt := 48) (by decide) (fun c39 => ?_) (fun c39 => ?_)
    · replace h := (if_pos c39).symm.trans h
      refine dx_bipush (pc := 48) hx dX9_sung_48 kb_9 ?_
      refine dx_lald (pc := 50) hx dX9_sung_50 rfl (vp_in_nI (dc_le rfl) (dc_le rfl)) ?_
      refine dx_lmul (pc := 51) hx dX9_sung_51 ?_
      refine dx_ladd (pc := 52) hx dX9_sung_52 ?_
      obtain rfl := Option.some.inj h
      exact dx_lret hO (pc := 53) dX9_sung_53 rfl ⟨_, rfl, rfl, rfl⟩
    · replace h := (if_neg c39).symm.trans h
      refine dx_iload_n (pc := 42) hx dX9_sung_42 rfl ?_
      refine dx_iconst (pc := 43) hx dX9_sung_43 kc_1 ?_
      refine dx_iadd (pc := 44) hx dX9_sung_44 ?_
      refine dx_goto (pc := 45) hx dX9_sung_45 (tgt := 50) (by decide) ?_
      by_cases g50 : (x1 + (nI 1)) < 0 ∨ 10 ≤ (x1 + (nI 1)).toNatClampNeg
      · cases (if_pos g50).symm.trans h
      replace h := (if_neg g50).symm.trans h
      refine dx_lald (pc := 50) hx dX9_sung_50 rfl g50 ?_
      refine dx_lmul (pc := 51) hx dX9_sung_51 ?_
      refine dx_ladd (pc := 52) hx dX9_sung_52 ?_
      obtain rfl := Option.some.inj h
      exact dx_lret hO (pc := 53) dX9_sung_53 rfl ⟨_, rfl, rfl, rfl⟩
  · replace h := (if_pos c1).symm.trans h
    refine dx_ldc2 (pc := 4) hx dX9_sung_4 f_X9_298 ?_
    refine dx_aload_n (pc := 7) hx dX9_sung_7 rfl ?_
    refine dx_getR (r := 73) (pc := 8) hx dX9_sung_8 f_X9_61 rfl rfl ?_
    refine dx_iconst (pc := 11) hx dX9_sung_11 kc_0 ?_
    refine dx_lald (pc := 12) hx dX9_sung_12 rfl (vp_in_nI (dc_le rfl) (dc_le rfl)) ?_
    refine dx_lmul (pc := 13) hx dX9_sung_13 ?_
    obtain rfl := Option.some.inj h
    exact dx_lret hO (pc := 14) dX9_sung_14 rfl ⟨_, rfl, rfl, rfl⟩
set_option maxHeartbeats 4000000 in
set_option maxRecDepth 100000 in
theorem th_X9_size {σ : dc_HP} {x0 : Int64} {r : Int64} (h : fn_X9_size x0 = some r) : dc_G mX9_size [.long x0] σ (dc_ql (fun x τ => x = r ∧ τ = σ)) := by
  intro κ hO
  have hx : dc_Cx κ RX9 cX9_size 2 0 0 := hO.1
  show dc_X κ 0 [some (.long x0), none] [] σ
  unfold fn_X9_size at h
  refine dx_lload_n (pc := 0) hx dX9_size_0 rfl ?_
  refine dx_lconst (pc := 1) hx dX9_size_1 (v := (0 : Int64)) (by decide) ?_
  refine dx_lcmp (pc := 2) hx dX9_size_2 ?_
  refine dx_if_ge (pc := 3) hx dX9_size_3 (tgt := 11) (by decide) (fun c3 => ?_) (fun c3 => ?_)
  · replace h := (if_pos c3).symm.trans h
    refine dx_lload_n (pc := 11) hx dX9_size_11 rfl ?_
    obtain rfl := Option.some.inj h
    exact dx_lret hO (pc := 12) dX9_size_12 rfl ⟨_, rfl, rfl, rfl⟩
  · replace h := (if_neg c3).symm.trans h
    refine dx_lload_n (pc := 6) hx dX9_size_6 rfl ?_
    refine dx_lneg (pc := 7) hx dX9_size_7 ?_
    refine dx_goto (pc := 8) hx dX9_size_8 (tgt := 12) (by decide) ?_
    obtain rfl := Option.some.inj h
    exact dx_lret hO (pc := 12) dX9_size_12 rfl ⟨_, rfl, rfl, rfl⟩
set_option maxHeartbeats 4000000 in
set_option maxRecDepth 100000 in
theorem tl_X9_lowest_L9 {κ : dc_KX} {Q : Option Value → dc_HP → Prop} (hO : dc_Ok κ mX9_lowest Q) (σ : dc_HP) (x0 : Int64) (x2 : Int64) (x4 : Int32) : ∀ (n : Nat) (x5 : Int64) (x7 : Int64) (q : Int64), fn_X9_lowest_L9 x0 x2 x4 n x5 x7 = some q → ∀ (hk : dc_X κ 34 [some (.long x0), none, some (.long x2), none, some (.int x4), some (.long q), none, none, none, none, none] [] σ), dc_X κ 9 [some (.long x0), none, some (.long x2), none, some (.int x4), some (.long x5), none, some (.long x7), none, none, none] [] σ := by
  have hx : dc_Cx κ RX9 cX9_lowest 11 1 21 := hO.1
  intro n
  induction n with
  | zero =>
    intro x5 x7 q h
    cases h
  | succ n ih =>
    intro x5 x7 q h hk
    unfold fn_X9_lowest_L9 at h
    refine dx_lload (pc := 9) hx dX9_lowest_9 rfl ?_
    refine dx_lconst (pc := 11) hx dX9_lowest_11 (v := (0 : Int64)) (by decide) ?_
    refine dx_lcmp (pc := 12) hx dX9_lowest_12 ?_
    refine dx_if_eq (pc := 13) hx dX9_lowest_13 (tgt := 34) (by decide) (fun c13 => ?_) (fun c13 => ?_)
    · replace h := (if_pos c13).symm.trans h
      obtain rfl := Option.some.inj h
      exact dx_wk [true, true, true, true, true, true, true, false, true, true, true] <| hk
    · replace h := (if_neg c13).symm.trans h
      refine dx_lload (pc := 16) hx dX9_lowest_16 rfl ?_
      refine dx_lload (pc := 18) hx dX9_lowest_18 rfl ?_
      by_cases g20 : x7 = 0
      · cases (if_pos g20).symm.trans h
      replace h := (if_neg g20).symm.trans h
      refine dx_lrem (pc := 20) hx dX9_lowest_20 g20 ?_
      refine dx_lstore (pc := 21) hx dX9_lowest_21 (dc_le rfl) (ls' := [some (.long x0), none, some (.long x2), none, some (.int x4), some (.long x5), none, some (.long x7), none, some (.long (x5 - x5 / x7 * x7)), none]) rfl ?_
      refine dx_lload (pc := 23) hx dX9_lowest_23 rfl ?_
      refine dx_lstore (pc := 25) hx dX9_lowest_25 (dc_le rfl) (ls' := [some (.long x0), none, some (.long x2), none, some (.int x4), some (.long x7), none, some (.long x7), none, some (.long (x5 - x5 / x7 * x7)), none]) rfl ?_
      refine dx_lload (pc := 27) hx dX9_lowest_27 rfl ?_
      refine dx_lstore (pc := 29) hx dX9_lowest_29 (dc_le rfl) (ls' := [some (.long x0), none, some (.long x2), none, some (.int x4), some (.long x7), none, some (.long (x5 - x5 / x7 * x7)), none, some (.long (x5 - x5 / x7 * x7)), none]) rfl ?_
      refine dx_goto (pc := 31) hx dX9_lowest_31 (tgt := 9) (by decide) ?_
      exact dx_wk [true, true, true, true, true, true, true, true, true, false, true] <| (ih x7 (x5 - x5 / x7 * x7) q h hk)
set_option maxHeartbeats 4000000 in
set_option maxRecDepth 100000 in
theorem th_X9_lowest {σ : dc_HP} {x0 : Int64} {x2 : Int64} {x4 : Int32} {r : Int64} (h : fn_X9_lowest x0 x2 x4 = some r) : dc_G mX9_lowest [.long x0, .long x2, .int x4] σ (dc_ql (fun x τ => x = r ∧ τ = σ)) := by
  intro κ hO
  have hx : dc_Cx κ RX9 cX9_lowest 11 1 21 := hO.1
  show dc_X κ 0 [some (.long x0), none, some (.long x2), none, some (.int x4), none, none, none, none, none, none] [] σ
  unfold fn_X9_lowest at h
  refine dx_lload_n (pc := 0) hx dX9_lowest_0 rfl ?_
  refine dx_lstore (pc := 1) hx dX9_lowest_1 (dc_le rfl) (ls' := [some (.long x0), none, some (.long x2), none, some (.int x4), some (.long x2), none, none, none, none, none]) rfl ?_
  refine dx_lload_n (pc := 3) hx dX9_lowest_3 rfl ?_
  obtain ⟨r4, h4, h⟩ := Option.bind_eq_some_iff.mp h
  refine dx_callSlr (pc := 4) (As := [.long x0]) (rest := []) hx dX9_lowest_4 k_X9_294 rfl (dc_le rfl) (dc_le rfl) (dc_le rfl) (dc_le rfl) rfl (th_X9_size h4) ?_
  refine dx_lstore (pc := 7) hx dX9_lowest_7 (dc_le rfl) (ls' := [some (.long x0), none, some (.long x2), none, some (.int x4), some (.long x2), none, some (.long r4), none, none, none]) rfl ?_
  obtain ⟨q9, h9, h⟩ := Option.bind_eq_some_iff.mp h
  refine (tl_X9_lowest_L9 hO σ x0 x2 x4 200 x2 r4 q9 h9 ?_)
  refine dx_iload (pc := 34) hx dX9_lowest_34 rfl ?_
  refine dx_if_ne (pc := 36) hx dX9_lowest_36 (tgt := 46) (by decide) (fun c36 => ?_) (fun c36 => ?_)
  · replace h := (if_neg c36).symm.trans h
    refine dx_lload_n (pc := 46) hx dX9_lowest_46 rfl ?_
    refine dx_lload (pc := 47) hx dX9_lowest_47 rfl ?_
    by_cases g49 : q9 = 0
    · cases (if_pos g49).symm.trans h
    replace h := (if_neg g49).symm.trans h
    refine dx_ldiv (pc := 49) hx dX9_lowest_49 g49 ?_
    obtain rfl := Option.some.inj h
    exact dx_lret hO (pc := 50) dX9_lowest_50 rfl ⟨_, rfl, rfl, rfl⟩
  · replace h := (if_pos c36).symm.trans h
    refine dx_lload_n (pc := 39) hx dX9_lowest_39 rfl ?_
    refine dx_lload (pc := 40) hx dX9_lowest_40 rfl ?_
    by_cases g42 : q9 = 0
    · cases (if_pos g42).symm.trans h
    replace h := (if_neg g42).symm.trans h
    refine dx_ldiv (pc := 42) hx dX9_lowest_42 g42 ?_
    refine dx_goto (pc := 43) hx dX9_lowest_43 (tgt := 50) (by decide) ?_
    obtain rfl := Option.some.inj h
    exact dx_lret hO (pc := 50) dX9_lowest_50 rfl ⟨_, rfl, rfl, rfl⟩
set_option maxHeartbeats 4000000 in
set_option maxRecDepth 100000 in
theorem tl_X9_fugue_L43 {κ : dc_KX} {Q : Option Value → dc_HP → Prop} (hO : dc_Ok κ mX9_fugue Q) (x1 : Int32) (x2 : Int32) (x3 : Int32) (x4 : Int32) (x5 : Int32) (x6 : Int32) (x7 : Int32) : ∀ (n : Nat) (x8 : Int32) (σ : dc_HP) (q : dc_HP), fn_X9_fugue_L43 x1 x2 x3 x4 x5 x6 x7 n x8 σ = some q → ∀ (hk : dc_X κ 70 [some (.ref 55), some (.int x1), some (.int x2), some (.int x3), some (.int x4), some (.int x5), some (.int x6), some (.int x7), none, none, none, none, none, none, none, none, none] [] q), dc_X κ 43 [some (.ref 55), some (.int x1), some (.int x2), some (.int x3), some (.int x4), some (.int x5), some (.int x6), some (.int x7), some (.int x8), none, none, none, none, none, none, none, none] [] σ := by
  have hx : dc_Cx κ RX9 cX9_fugue 17 2 51 := hO.1
  intro n
  induction n with
  | zero =>
    intro x8 σ q h
    cases h
  | succ n ih =>
    intro x8 σ q h hk
    unfold fn_X9_fugue_L43 at h
    refine dx_iload (pc := 43) hx dX9_fugue_43 rfl ?_
    refine dx_bipush (pc := 45) hx dX9_fugue_45 kb_9 ?_
    refine dx_icmp_gt (pc := 47) hx dX9_fugue_47 (tgt := 70) (by decide) (fun c47 => ?_) (fun c47 => ?_)
    · replace h := (if_pos c47).symm.trans h
      obtain rfl := Option.some.inj h
      exact dx_wk [true, true, true, true, true, true, true, true, false, true, true, true, true, true, true, true, true] <| hk
    · replace h := (if_neg c47).symm.trans h
      refine dx_aload_n (pc := 50) hx dX9_fugue_50 rfl ?_
      refine dx_getR (r := 73) (pc := 51) hx dX9_fugue_51 f_X9_61 rfl rfl ?_
      refine dx_iload (pc := 54) hx dX9_fugue_54 rfl ?_
      refine dx_iload (pc := 56) hx dX9_fugue_56 rfl ?_
      refine dx_ineg (pc := 58) hx dX9_fugue_58 ?_
      refine dx_iload (pc := 59) hx dX9_fugue_59 rfl ?_
      refine dx_imul (pc := 61) hx dX9_fugue_61 ?_
      refine dx_i2l (pc := 62) hx dX9_fugue_62 ?_
      by_cases g63 : x8 < 0 ∨ 10 ≤ x8.toNatClampNeg
      · cases (if_pos g63).symm.trans h
      replace h := (if_neg g63).symm.trans h
      refine dx_last (pc := 63) hx dX9_fugue_63 rfl g63 ?_
      refine dx_nm (fun s63 e63 => ?_)
      replace h := dc_lt e63 h
      refine dx_iinc (pc := 64) hx dX9_fugue_64 rfl (v := x8 + nI 1) (congrArg (fun z => x8 + z) kc_1) (dc_le rfl) (ls' := [some (.ref 55), some (.int x1), some (.int x2), some (.int x3), some (.int x4), some (.int x5), some (.int x6), some (.int x7), some (.int (x8 + nI 1)), none, none, none, none, none, none, none, none]) rfl ?_
      refine dx_goto (pc := 67) hx dX9_fugue_67 (tgt := 43) (by decide) ?_
      exact (ih (x8 + nI 1) s63 q h hk)
set_option maxHeartbeats 4000000 in
set_option maxRecDepth 100000 in
theorem tl_X9_fugue_L96 {κ : dc_KX} {Q : Option Value → dc_HP → Prop} (hO : dc_Ok κ mX9_fugue Q) (x1 : Int32) (x2 : Int32) (x3 : Int32) (x4 : Int32) (x6 : Int32) (x7 : Int32) (x8 : Int64) (x11 : Int32) : ∀ (n : Nat) (x10 : Int32) (x12 : Int32) (σ : dc_HP) (q : Int32 × dc_HP), fn_X9_fugue_L96 x1 x2 x3 x4 x6 x7 x8 x11 n x10 x12 σ = some q → ∀ (hk : dc_X κ 196 [some (.ref 55), some (.int x1), some (.int x2), some (.int x3), some (.int x4), none, some (.int x6), some (.int x7), some (.long x8), none, some (.int q.1), some (.int x11), none, none, none, none, none] [] q.2), dc_X κ 96 [some (.ref 55), some (.int x1), some (.int x2), some (.int x3), some (.int x4), none, some (.int x6), some (.int x7), some (.long x8), none, some (.int x10), some (.int x11), some (.int x12), none, none, none, none] [] σ := by
  have hx : dc_Cx κ RX9 cX9_fugue 17 2 51 := hO.1
  intro n
  induction n with
  | zero =>
    intro x10 x12 σ q h
    cases h
  | succ n ih =>
    intro x10 x12 σ q h hk
    unfold fn_X9_fugue_L96 at h
    refine dx_iload (pc := 96) hx dX9_fugue_96 rfl ?_
    refine dx_bipush (pc := 98) hx dX9_fugue_98 kb_9 ?_
    refine dx_icmp_gt (pc := 100) hx dX9_fugue_100 (tgt := 196) (by decide) (fun c100 => ?_) (fun c100 => ?_)
    · replace h := (if_pos c100).symm.trans h
      obtain rfl := Option.some.inj h
      exact dx_wk [true, true, true, true, true, true, true, true, true, true, true, true, false, true, true, true, true] <| hk
    · replace h := (if_neg c100).symm.trans h
      refine dx_aload_n (pc := 103) hx dX9_fugue_103 rfl ?_
      refine dx_iload (pc := 104) hx dX9_fugue_104 rfl ?_
      refine dx_iload_n (pc := 106) hx dX9_fugue_106 rfl ?_
      obtain ⟨r107, h107, h⟩ := Option.bind_eq_some_iff.mp h
      refine dx_callVlr (pc := 107) (As := [.int x12, .int x3]) (rest := []) hx dX9_fugue_107 k_X9_308 rfl rfl rfl rfl (dc_le rfl) (dc_le rfl) (dc_le rfl) (dc_le rfl) rfl (th_X9_sung h107) ?_
      refine dx_lstore (pc := 110) hx dX9_fugue_110 (dc_le rfl) (ls' := [some (.ref 55), some (.int x1), some (.int x2), some (.int x3), some (.int x4), none, some (.int x6), some (.int x7), some (.long x8), none, some (.int x10), some (.int x11), some (.int x12), some (.long r107), none, none, none]) rfl ?_
      refine dx_iload (pc := 112) hx dX9_fugue_112 rfl ?_
      refine dx_bipush (pc := 114) hx dX9_fugue_114 kb_9 ?_
      obtain ⟨q116, hr, h⟩ := Option.bind_eq_some_iff.mp h
      have hk : dc_X κ 140 [some (.ref 55), some (.int x1), some (.int x2), some (.int x3), some (.int x4), none, some (.int x6), some (.int x7), some (.long x8), none, some (.int x10), some (.int x11), some (.int x12), some (.long r107), none, none, none] [.long q116] σ := by
        clear hr
        refine dx_lstore (pc := 140) hx dX9_fugue_140 (dc_le rfl) (ls' := [some (.ref 55), some (.int x1), some (.int x2), some (.int x3), some (.int x4), none, some (.int x6), some (.int x7), some (.long x8), none, some (.int x10), some (.int x11), some (.int x12), some (.long r107), none, some (.long q116), none]) rfl ?_
        refine dx_iload (pc := 142) hx dX9_fugue_142 rfl ?_
        refine dx_iload_n (pc := 144) hx dX9_fugue_144 rfl ?_
        obtain ⟨q145, hr, h⟩ := Option.bind_eq_some_iff.mp h
        have hk : dc_X κ 166 [some (.ref 55), some (.int x1), some (.int x2), some (.int x3), some (.int x4), none, some (.int x6), some (.int x7), some (.long x8), none, some (.int x10), some (.int x11), some (.int x12), some (.long r107), none, some (.long q116), none] [.int q145] σ := by
          clear hr
          refine dx_istore (pc := 166) hx dX9_fugue_166 (dc_le rfl) (ls' := [some (.ref 55), some (.int x1), some (.int x2), some (.int x3), some (.int x4), none, some (.int x6), some (.int x7), some (.long x8), none, some (.int q145), some (.int x11), some (.int x12), some (.long r107), none, some (.long q116), none]) rfl ?_
          refine dx_aload_n (pc := 168) hx dX9_fugue_168 rfl ?_
          refine dx_getR (r := 74) (pc := 169) hx dX9_fugue_169 f_X9_65 rfl rfl ?_
          refine dx_iload (pc := 172) hx dX9_fugue_172 rfl ?_
          refine dx_lload (pc := 174) hx dX9_fugue_174 rfl ?_
          refine dx_lload (pc := 176) hx dX9_fugue_176 rfl ?_
          refine dx_lcmp (pc := 178) hx dX9_fugue_178 ?_
          refine dx_if_le (pc := 179) hx dX9_fugue_179 (tgt := 187) (by decide) (fun c179 => ?_) (fun c179 => ?_)
          · replace h := (if_pos c179).symm.trans h
            refine dx_lload (pc := 187) hx dX9_fugue_187 rfl ?_
            by_cases g189 : x12 < 0 ∨ 10 ≤ x12.toNatClampNeg
            · cases (if_pos g189).symm.trans h
            replace h := (if_neg g189).symm.trans h
            refine dx_last (pc := 189) hx dX9_fugue_189 rfl g189 ?_
            refine dx_nm (fun s189 e189 => ?_)
            replace h := dc_lt e189 h
            refine dx_iinc (pc := 190) hx dX9_fugue_190 rfl (v := x12 + nI 1) (congrArg (fun z => x12 + z) kc_1) (dc_le rfl) (ls' := [some (.ref 55), some (.int x1), some (.int x2), some (.int x3), some (.int x4), none, some (.int x6), some (.int x7), some (.long x8), none, some (.int q145), some (.int x11), some (.int (x12 + nI 1)), some (.long r107), none, some (.long q116), none]) rfl ?_
            refine dx_goto (pc := 193) hx dX9_fugue_193 (tgt := 96) (by decide) ?_
            exact dx_wk [true, true, true, true, true, true, true, true, true, true, true, true, true, false, true, false, true] <| (ih q145 (x12 + nI 1) s189 q h hk)
          · replace h := (if_neg c179).symm.trans h
            refine dx_lload (pc := 182) hx dX9_fugue_182 rfl ?_
            refine dx_goto (pc := 184) hx dX9_fugue_184 (tgt := 189) (by decide) ?_
            by_cases g189 : x12 < 0 ∨ 10 ≤ x12.toNatClampNeg
            · cases (if_pos g189).symm.trans h
            replace h := (if_neg g189).symm.trans h
            refine dx_last (pc := 189) hx dX9_fugue_189 rfl g189 ?_
            refine dx_nm (fun s189 e189 => ?_)
            replace h := dc_lt e189 h
            refine dx_iinc (pc := 190) hx dX9_fugue_190 rfl (v := x12 + nI 1) (congrArg (fun z => x12 + z) kc_1) (dc_le rfl) (ls' := [some (.ref 55), some (.int x1), some (.int x2), some (.int x3), some (.int x4), none, some (.int x6), some (.int x7), some (.long x8), none, some (.int q145), some (.int x11), some (.int (x12 + nI 1)), some (.long r107), none, some (.long q116), none]) rfl ?_
            refine dx_goto (pc := 193) hx dX9_fugue_193 (tgt := 96) (by decide) ?_
            exact dx_wk [true, true, true, true, true, true, true, true, true, true, true, true, true, false, true, false, true] <| (ih q145 (x12 + nI 1) s189 q h hk)
        replace h := hr
        clear hr
        refine dx_icmp_ne (pc := 145) hx dX9_fugue_145 (tgt := 164) (by decide) (fun c145 => ?_) (fun c145 => ?_)
        · replace h := (if_neg c145).symm.trans h
          refine dx_iload (pc := 164) hx dX9_fugue_164 rfl ?_
          obtain rfl := Option.some.inj h
          exact hk
        · replace h := (if_pos c145).symm.trans h
          refine dx_lload (pc := 148) hx dX9_fugue_148 rfl ?_
          refine dx_lload (pc := 150) hx dX9_fugue_150 rfl ?_
          refine dx_lcmp (pc := 152) hx dX9_fugue_152 ?_
          refine dx_if_le (pc := 153) hx dX9_fugue_153 (tgt := 160) (by decide) (fun c153 => ?_) (fun c153 => ?_)
          · replace h := (if_pos c153).symm.trans h
            refine dx_iconst (pc := 160) hx dX9_fugue_160 kc_0 ?_
            refine dx_goto (pc := 161) hx dX9_fugue_161 (tgt := 166) (by decide) ?_
            obtain rfl := Option.some.inj h
            exact hk
          · replace h := (if_neg c153).symm.trans h
            refine dx_iconst (pc := 156) hx dX9_fugue_156 kc_1 ?_
            refine dx_goto (pc := 157) hx dX9_fugue_157 (tgt := 166) (by decide) ?_
            obtain rfl := Option.some.inj h
            exact hk
      replace h := hr
      clear hr
      refine dx_icmp_ge (pc := 116) hx dX9_fugue_116 (tgt := 138) (by decide) (fun c116 => ?_) (fun c116 => ?_)
      · replace h := (if_pos c116).symm.trans h
        refine dx_lload (pc := 138) hx dX9_fugue_138 rfl ?_
        obtain rfl := Option.some.inj h
        exact hk
      · replace h := (if_neg c116).symm.trans h
        refine dx_iload (pc := 119) hx dX9_fugue_119 rfl ?_
        refine dx_i2l (pc := 121) hx dX9_fugue_121 ?_
        refine dx_lload (pc := 122) hx dX9_fugue_122 rfl ?_
        refine dx_lmul (pc := 124) hx dX9_fugue_124 ?_
        refine dx_aload_n (pc := 125) hx dX9_fugue_125 rfl ?_
        refine dx_iload (pc := 126) hx dX9_fugue_126 rfl ?_
        refine dx_iconst (pc := 128) hx dX9_fugue_128 kc_1 ?_
        refine dx_iadd (pc := 129) hx dX9_fugue_129 ?_
        refine dx_iload_n (pc := 130) hx dX9_fugue_130 rfl ?_
        obtain ⟨r131, h131, h⟩ := Option.bind_eq_some_iff.mp h
        refine dx_callVlr (pc := 131) (As := [.int (x12 + (nI 1)), .int x3]) (rest := [.long (x4.toInt64 * x8)]) hx dX9_fugue_131 k_X9_308 rfl rfl rfl rfl (dc_le rfl) (dc_le rfl) (dc_le rfl) (dc_le rfl) rfl (th_X9_sung h131) ?_
        refine dx_ladd (pc := 134) hx dX9_fugue_134 ?_
        refine dx_goto (pc := 135) hx dX9_fugue_135 (tgt := 140) (by decide) ?_
        obtain rfl := Option.some.inj h
        exact hk
set_option maxHeartbeats 4000000 in
set_option maxRecDepth 100000 in
theorem tl_X9_fugue_L199 {κ : dc_KX} {Q : Option Value → dc_HP → Prop} (hO : dc_Ok κ mX9_fugue Q) (x1 : Int32) (x2 : Int32) (x3 : Int32) (x4 : Int32) (x6 : Int32) (x7 : Int32) (x8 : Int64) (x10 : Int32) (x11 : Int32) : ∀ (n : Nat) (x12 : Int32) (σ : dc_HP) (q : dc_HP), fn_X9_fugue_L199 x1 x2 x3 x4 x6 x7 x8 x10 x11 n x12 σ = some q → ∀ (hk : dc_X κ 226 [some (.ref 55), some (.int x1), some (.int x2), some (.int x3), some (.int x4), none, some (.int x6), some (.int x7), some (.long x8), none, some (.int x10), some (.int x11), none, none, none, none, none] [] q), dc_X κ 199 [some (.ref 55), some (.int x1), some (.int x2), some (.int x3), some (.int x4), none, some (.int x6), some (.int x7), some (.long x8), none, some (.int x10), some (.int x11), some (.int x12), none, none, none, none] [] σ := by
  have hx : dc_Cx κ RX9 cX9_fugue 17 2 51 := hO.1
  intro n
  induction n with
  | zero =>
    intro x12 σ q h
    cases h
  | succ n ih =>
    intro x12 σ q h hk
    unfold fn_X9_fugue_L199 at h
    refine dx_iload (pc := 199) hx dX9_fugue_199 rfl ?_
    refine dx_bipush (pc := 201) hx dX9_fugue_201 kb_9 ?_
    refine dx_icmp_gt (pc := 203) hx dX9_fugue_203 (tgt := 226) (by decide) (fun c203 => ?_) (fun c203 => ?_)
    · replace h := (if_pos c203).symm.trans h
      obtain rfl := Option.some.inj h
      exact dx_wk [true, true, true, true, true, true, true, true, true, true, true, true, false, true, true, true, true] <| hk
    · replace h := (if_neg c203).symm.trans h
      refine dx_aload_n (pc := 206) hx dX9_fugue_206 rfl ?_
      refine dx_getR (r := 73) (pc := 207) hx dX9_fugue_207 f_X9_61 rfl rfl ?_
      refine dx_iload (pc := 210) hx dX9_fugue_210 rfl ?_
      refine dx_aload_n (pc := 212) hx dX9_fugue_212 rfl ?_
      refine dx_getR (r := 74) (pc := 213) hx dX9_fugue_213 f_X9_65 rfl rfl ?_
      refine dx_iload (pc := 216) hx dX9_fugue_216 rfl ?_
      by_cases g218 : x12 < 0 ∨ 10 ≤ x12.toNatClampNeg
      · cases (if_pos g218).symm.trans h
      replace h := (if_neg g218).symm.trans h
      refine dx_lald (pc := 218) hx dX9_fugue_218 rfl g218 ?_
      by_cases g219 : x12 < 0 ∨ 10 ≤ x12.toNatClampNeg
      · cases (if_pos g219).symm.trans h
      replace h := (if_neg g219).symm.trans h
      refine dx_last (pc := 219) hx dX9_fugue_219 rfl g219 ?_
      refine dx_nm (fun s219 e219 => ?_)
      replace h := dc_lt e219 h
      refine dx_iinc (pc := 220) hx dX9_fugue_220 rfl (v := x12 + nI 1) (congrArg (fun z => x12 + z) kc_1) (dc_le rfl) (ls' := [some (.ref 55), some (.int x1), some (.int x2), some (.int x3), some (.int x4), none, some (.int x6), some (.int x7), some (.long x8), none, some (.int x10), some (.int x11), some (.int (x12 + nI 1)), none, none, none, none]) rfl ?_
      refine dx_goto (pc := 223) hx dX9_fugue_223 (tgt := 199) (by decide) ?_
      exact (ih (x12 + nI 1) s219 q h hk)
set_option maxHeartbeats 4000000 in
set_option maxRecDepth 100000 in
theorem tl_X9_fugue_L79 {κ : dc_KX} {Q : Option Value → dc_HP → Prop} (hO : dc_Ok κ mX9_fugue Q) (x1 : Int32) (x2 : Int32) (x3 : Int32) (x4 : Int32) (x6 : Int32) (x7 : Int32) : ∀ (n : Nat) (x8 : Int64) (x10 : Int32) (x11 : Int32) (σ : dc_HP) (q : Int64 × Int32 × dc_HP), fn_X9_fugue_L79 x1 x2 x3 x4 x6 x7 n x8 x10 x11 σ = some q → ∀ (hk : dc_X κ 232 [some (.ref 55), some (.int x1), some (.int x2), some (.int x3), some (.int x4), none, some (.int x6), some (.int x7), some (.long q.1), none, some (.int q.2.1), none, none, none, none, none, none] [] q.2.2), dc_X κ 79 [some (.ref 55), some (.int x1), some (.int x2), some (.int x3), some (.int x4), none, some (.int x6), some (.int x7), some (.long x8), none, some (.int x10), some (.int x11), none, none, none, none, none] [] σ := by
  have hx : dc_Cx κ RX9 cX9_fugue 17 2 51 := hO.1
  intro n
  induction n with
  | zero =>
    intro x8 x10 x11 σ q h
    cases h
  | succ n ih =>
    intro x8 x10 x11 σ q h hk
    unfold fn_X9_fugue_L79 at h
    refine dx_iload (pc := 79) hx dX9_fugue_79 rfl ?_
    refine dx_iload_n (pc := 81) hx dX9_fugue_81 rfl ?_
    refine dx_icmp_ge (pc := 82) hx dX9_fugue_82 (tgt := 232) (by decide) (fun c82 => ?_) (fun c82 => ?_)
    · replace h := (if_pos c82).symm.trans h
      obtain rfl := Option.some.inj h
      exact dx_wk [true, true, true, true, true, true, true, true, true, true, true, false, true, true, true, true, true] <| hk
    · replace h := (if_neg c82).symm.trans h
      refine dx_lload (pc := 85) hx dX9_fugue_85 rfl ?_
      refine dx_ldc2 (pc := 87) hx dX9_fugue_87 f_X9_298 ?_
      refine dx_lmul (pc := 90) hx dX9_fugue_90 ?_
      refine dx_lstore (pc := 91) hx dX9_fugue_91 (dc_le rfl) (ls' := [some (.ref 55), some (.int x1), some (.int x2), some (.int x3), some (.int x4), none, some (.int x6), some (.int x7), some (.long (x8 * ((10 : Int64)))), none, some (.int x10), some (.int x11), none, none, none, none, none]) rfl ?_
      refine dx_iconst (pc := 93) hx dX9_fugue_93 kc_0 ?_
      refine dx_istore (pc := 94) hx dX9_fugue_94 (dc_le rfl) (ls' := [some (.ref 55), some (.int x1), some (.int x2), some (.int x3), some (.int x4), none, some (.int x6), some (.int x7), some (.long (x8 * ((10 : Int64)))), none, some (.int x10), some (.int x11), some (.int (nI 0)), none, none, none, none]) rfl ?_
      obtain ⟨q96, h96, h⟩ := Option.bind_eq_some_iff.mp h
      refine (tl_X9_fugue_L96 hO x1 x2 x3 x4 x6 x7 (x8 * ((10 : Int64))) x11 200 x10 (nI 0) σ q96 h96 ?_)
      refine dx_iconst (pc := 196) hx dX9_fugue_196 kc_0 ?_
      refine dx_istore (pc := 197) hx dX9_fugue_197 (dc_le rfl) (ls' := [some (.ref 55), some (.int x1), some (.int x2), some (.int x3), some (.int x4), none, some (.int x6), some (.int x7), some (.long (x8 * ((10 : Int64)))), none, some (.int q96.1), some (.int x11), some (.int (nI 0)), none, none, none, none]) rfl ?_
      obtain ⟨q199, h199, h⟩ := Option.bind_eq_some_iff.mp h
      refine (tl_X9_fugue_L199 hO x1 x2 x3 x4 x6 x7 (x8 * ((10 : Int64))) q96.1 x11 200 (nI 0) q96.2 q199 h199 ?_)
      refine dx_iinc (pc := 226) hx dX9_fugue_226 rfl (v := x11 + nI 1) (congrArg (fun z => x11 + z) kc_1) (dc_le rfl) (ls' := [some (.ref 55), some (.int x1), some (.int x2), some (.int x3), some (.int x4), none, some (.int x6), some (.int x7), some (.long (x8 * ((10 : Int64)))), none, some (.int q96.1), some (.int (x11 + nI 1)), none, none, none, none, none]) rfl ?_
      refine dx_goto (pc := 229) hx dX9_fugue_229 (tgt := 79) (by decide) ?_
      exact (ih (x8 * ((10 : Int64))) q96.1 (x11 + nI 1) q199 q h hk)
set_option maxHeartbeats 4000000 in
set_option maxRecDepth 100000 in
theorem th_X9_fugue {σ : dc_HP} {x1 : Int32} {x2 : Int32} {x3 : Int32} {x4 : Int32} {x5 : Int32} {x6 : Int32} {x7 : Int32} {r : Int64 × dc_HP} (h : fn_X9_fugue σ x1 x2 x3 x4 x5 x6 x7 = some r) : dc_G mX9_fugue [.ref 55, .int x1, .int x2, .int x3, .int x4, .int x5, .int x6, .int x7] σ (dc_ql (fun x τ => x = r.1 ∧ τ = r.2)) := by
  intro κ hO
  have hx : dc_Cx κ RX9 cX9_fugue 17 2 51 := hO.1
  show dc_X κ 0 [some (.ref 55), some (.int x1), some (.int x2), some (.int x3), some (.int x4), some (.int x5), some (.int x6), some (.int x7), none, none, none, none, none, none, none, none, none] [] σ
  unfold fn_X9_fugue at h
  refine dx_aload_n (pc := 0) hx dX9_fugue_0 rfl ?_
  refine dx_iload_n (pc := 1) hx dX9_fugue_1 rfl ?_
  refine dx_iload_n (pc := 2) hx dX9_fugue_2 rfl ?_
  refine dx_iload_n (pc := 3) hx dX9_fugue_3 rfl ?_
  refine dx_iload (pc := 4) hx dX9_fugue_4 rfl ?_
  refine dx_iload (pc := 6) hx dX9_fugue_6 rfl ?_
  obtain ⟨r8, h8, h⟩ := Option.bind_eq_some_iff.mp h
  refine dx_callVir (pc := 8) (As := [.int x1, .int x2, .int x3, .int x4, .int x5]) (rest := []) hx dX9_fugue_8 k_X9_302 rfl rfl rfl rfl (dc_le rfl) (dc_le rfl) (dc_le rfl) (dc_le rfl) rfl (th_X9_fugueGood h8) ?_
  refine dx_if_eq (pc := 11) hx dX9_fugue_11 (tgt := 36) (by decide) (fun c11 => ?_) (fun c11 => ?_)
  · replace h := (if_pos c11).symm.trans h
    refine dx_ldc2 (pc := 36) hx dX9_fugue_36 f_X9_306 ?_
    obtain rfl := Option.some.inj h
    exact dx_lret hO (pc := 39) dX9_fugue_39 rfl ⟨_, rfl, rfl, rfl⟩
  · replace h := (if_neg c11).symm.trans h
    refine dx_iload (pc := 14) hx dX9_fugue_14 rfl ?_
    refine dx_i2l (pc := 16) hx dX9_fugue_16 ?_
    refine dx_lconst (pc := 17) hx dX9_fugue_17 (v := (0 : Int64)) (by decide) ?_
    refine dx_lconst (pc := 18) hx dX9_fugue_18 (v := (1 : Int64)) (by decide) ?_
    obtain ⟨r19, h19, h⟩ := Option.bind_eq_some_iff.mp h
    refine dx_callSir (pc := 19) (As := [.long x6.toInt64, .long ((0 : Int64)), .long ((1 : Int64))]) (rest := []) hx dX9_fugue_19 k_X9_77 rfl (dc_le rfl) (dc_le rfl) (dc_le rfl) (dc_le rfl) rfl (th_X9_in h19) ?_
    refine dx_if_eq (pc := 22) hx dX9_fugue_22 (tgt := 36) (by decide) (fun c22 => ?_) (fun c22 => ?_)
    · replace h := (if_pos c22).symm.trans h
      refine dx_ldc2 (pc := 36) hx dX9_fugue_36 f_X9_306 ?_
      obtain rfl := Option.some.inj h
      exact dx_lret hO (pc := 39) dX9_fugue_39 rfl ⟨_, rfl, rfl, rfl⟩
    · replace h := (if_neg c22).symm.trans h
      refine dx_iload (pc := 25) hx dX9_fugue_25 rfl ?_
      refine dx_i2l (pc := 27) hx dX9_fugue_27 ?_
      refine dx_lconst (pc := 28) hx dX9_fugue_28 (v := (0 : Int64)) (by decide) ?_
      refine dx_lconst (pc := 29) hx dX9_fugue_29 (v := (1 : Int64)) (by decide) ?_
      obtain ⟨r30, h30, h⟩ := Option.bind_eq_some_iff.mp h
      refine dx_callSir (pc := 30) (As := [.long x7.toInt64, .long ((0 : Int64)), .long ((1 : Int64))]) (rest := []) hx dX9_fugue_30 k_X9_77 rfl (dc_le rfl) (dc_le rfl) (dc_le rfl) (dc_le rfl) rfl (th_X9_in h30) ?_
      refine dx_if_ne (pc := 33) hx dX9_fugue_33 (tgt := 40) (by decide) (fun c33 => ?_) (fun c33 => ?_)
      · replace h := (if_neg c33).symm.trans h
        refine dx_iconst (pc := 40) hx dX9_fugue_40 kc_0 ?_
        refine dx_istore (pc := 41) hx dX9_fugue_41 (dc_le rfl) (ls' := [some (.ref 55), some (.int x1), some (.int x2), some (.int x3), some (.int x4), some (.int x5), some (.int x6), some (.int x7), some (.int (nI 0)), none, none, none, none, none, none, none, none]) rfl ?_
        obtain ⟨q43, h43, h⟩ := Option.bind_eq_some_iff.mp h
        refine (tl_X9_fugue_L43 hO x1 x2 x3 x4 x5 x6 x7 200 (nI 0) σ q43 h43 ?_)
        refine dx_lconst (pc := 70) hx dX9_fugue_70 (v := (1 : Int64)) (by decide) ?_
        refine dx_lstore (pc := 71) hx dX9_fugue_71 (dc_le rfl) (ls' := [some (.ref 55), some (.int x1), some (.int x2), some (.int x3), some (.int x4), some (.int x5), some (.int x6), some (.int x7), some (.long ((1 : Int64))), none, none, none, none, none, none, none, none]) rfl ?_
        refine dx_iconst (pc := 73) hx dX9_fugue_73 kc_0 ?_
        refine dx_istore (pc := 74) hx dX9_fugue_74 (dc_le rfl) (ls' := [some (.ref 55), some (.int x1), some (.int x2), some (.int x3), some (.int x4), some (.int x5), some (.int x6), some (.int x7), some (.long ((1 : Int64))), none, some (.int (nI 0)), none, none, none, none, none, none]) rfl ?_
        refine dx_iconst (pc := 76) hx dX9_fugue_76 kc_0 ?_
        refine dx_istore (pc := 77) hx dX9_fugue_77 (dc_le rfl) (ls' := [some (.ref 55), some (.int x1), some (.int x2), some (.int x3), some (.int x4), some (.int x5), some (.int x6), some (.int x7), some (.long ((1 : Int64))), none, some (.int (nI 0)), some (.int (nI 0)), none, none, none, none, none]) rfl ?_
        obtain ⟨q79, h79, h⟩ := Option.bind_eq_some_iff.mp h
        refine dx_wk [true, true, true, true, true, false, true, true, true, true, true, true, true, true, true, true, true] <| (tl_X9_fugue_L79 hO x1 x2 x3 x4 x6 x7 200 ((1 : Int64)) (nI 0) (nI 0) q43 q79 h79 ?_)
        refine dx_iload (pc := 232) hx dX9_fugue_232 rfl ?_
        refine dx_iconst (pc := 234) hx dX9_fugue_234 kc_1 ?_
        refine dx_icmp_ne (pc := 235) hx dX9_fugue_235 (tgt := 251) (by decide) (fun c235 => ?_) (fun c235 => ?_)
        · replace h := (if_neg c235).symm.trans h
          refine dx_aload_n (pc := 251) hx dX9_fugue_251 rfl ?_
          refine dx_getR (r := 73) (pc := 252) hx dX9_fugue_252 f_X9_61 rfl rfl ?_
          refine dx_iload_n (pc := 255) hx dX9_fugue_255 rfl ?_
          by_cases g256 : x1 < 0 ∨ 10 ≤ x1.toNatClampNeg
          · cases (if_pos g256).symm.trans h
          replace h := (if_neg g256).symm.trans h
          refine dx_lald (pc := 256) hx dX9_fugue_256 rfl g256 ?_
          refine dx_lload (pc := 257) hx dX9_fugue_257 rfl ?_
          refine dx_iload (pc := 259) hx dX9_fugue_259 rfl ?_
          obtain ⟨r261, h261, h⟩ := Option.bind_eq_some_iff.mp h
          refine dx_callSlr (pc := 261) (As := [.long (q79.2.2.2 73 x1.toNatClampNeg), .long q79.1, .int x7]) (rest := []) hx dX9_fugue_261 k_X9_312 rfl (dc_le rfl) (dc_le rfl) (dc_le rfl) (dc_le rfl) rfl (th_X9_lowest h261) ?_
          obtain rfl := Option.some.inj h
          exact dx_lret hO (pc := 264) dX9_fugue_264 rfl ⟨_, rfl, rfl, rfl⟩
        · replace h := (if_pos c235).symm.trans h
          refine dx_iload (pc := 238) hx dX9_fugue_238 rfl ?_
          refine dx_if_eq (pc := 240) hx dX9_fugue_240 (tgt := 247) (by decide) (fun c240 => ?_) (fun c240 => ?_)
          · replace h := (if_pos c240).symm.trans h
            refine dx_lconst (pc := 247) hx dX9_fugue_247 (v := (0 : Int64)) (by decide) ?_
            refine dx_goto (pc := 248) hx dX9_fugue_248 (tgt := 264) (by decide) ?_
            obtain rfl := Option.some.inj h
            exact dx_lret hO (pc := 264) dX9_fugue_264 rfl ⟨_, rfl, rfl, rfl⟩
          · replace h := (if_neg c240).symm.trans h
            refine dx_lconst (pc := 243) hx dX9_fugue_243 (v := (1 : Int64)) (by decide) ?_
            refine dx_goto (pc := 244) hx dX9_fugue_244 (tgt := 264) (by decide) ?_
            obtain rfl := Option.some.inj h
            exact dx_lret hO (pc := 264) dX9_fugue_264 rfl ⟨_, rfl, rfl, rfl⟩
      · replace h := (if_pos c33).symm.trans h
        refine dx_ldc2 (pc := 36) hx dX9_fugue_36 f_X9_306 ?_
        obtain rfl := Option.some.inj h
        exact dx_lret hO (pc := 39) dX9_fugue_39 rfl ⟨_, rfl, rfl, rfl⟩
set_option maxHeartbeats 4000000 in
set_option maxRecDepth 100000 in
theorem th_X9_actBy {σ : dc_HP} {x0 : Int32} {r : Int32} (h : fn_X9_actBy x0 = some r) : dc_G mX9_actBy [.int x0] σ (dc_qi (fun x τ => x = r ∧ τ = σ)) := by
  intro κ hO
  have hx : dc_Cx κ RX9 cX9_actBy 1 0 0 := hO.1
  show dc_X κ 0 [some (.int x0)] [] σ
  unfold fn_X9_actBy at h
  refine dx_iload_n (pc := 0) hx dX9_actBy_0 rfl ?_
  refine dx_iconst (pc := 1) hx dX9_actBy_1 kc_3 ?_
  refine dx_icmp_ge (pc := 2) hx dX9_actBy_2 (tgt := 9) (by decide) (fun c2 => ?_) (fun c2 => ?_)
  · replace h := (if_pos c2).symm.trans h
    refine dx_iload_n (pc := 9) hx dX9_actBy_9 rfl ?_
    refine dx_iconst (pc := 10) hx dX9_actBy_10 kc_3 ?_
    refine dx_icmp_ne (pc := 11) hx dX9_actBy_11 (tgt := 18) (by decide) (fun c11 => ?_) (fun c11 => ?_)
    · replace h := (if_neg c11).symm.trans h
      refine dx_iload_n (pc := 18) hx dX9_actBy_18 rfl ?_
      refine dx_bipush (pc := 19) hx dX9_actBy_19 kb_6 ?_
      refine dx_icmp_ge (pc := 21) hx dX9_actBy_21 (tgt := 28) (by decide) (fun c21 => ?_) (fun c21 => ?_)
      · replace h := (if_pos c21).symm.trans h
        refine dx_iload_n (pc := 28) hx dX9_actBy_28 rfl ?_
        refine dx_bipush (pc := 29) hx dX9_actBy_29 kb_6 ?_
        refine dx_icmp_ne (pc := 31) hx dX9_actBy_31 (tgt := 38) (by decide) (fun c31 => ?_) (fun c31 => ?_)
        · replace h := (if_neg c31).symm.trans h
          refine dx_iconst (pc := 38) hx dX9_actBy_38 kc_3 ?_
          obtain rfl := Option.some.inj h
          exact dx_iret hO (pc := 39) dX9_actBy_39 rfl ⟨_, rfl, rfl, rfl⟩
        · replace h := (if_pos c31).symm.trans h
          refine dx_iconst (pc := 34) hx dX9_actBy_34 kc_2 ?_
          refine dx_goto (pc := 35) hx dX9_actBy_35 (tgt := 39) (by decide) ?_
          obtain rfl := Option.some.inj h
          exact dx_iret hO (pc := 39) dX9_actBy_39 rfl ⟨_, rfl, rfl, rfl⟩
      · replace h := (if_neg c21).symm.trans h
        refine dx_iconst (pc := 24) hx dX9_actBy_24 kc_1 ?_
        refine dx_goto (pc := 25) hx dX9_actBy_25 (tgt := 39) (by decide) ?_
        obtain rfl := Option.some.inj h
        exact dx_iret hO (pc := 39) dX9_actBy_39 rfl ⟨_, rfl, rfl, rfl⟩
    · replace h := (if_pos c11).symm.trans h
      refine dx_iconst (pc := 14) hx dX9_actBy_14 kc_5 ?_
      refine dx_goto (pc := 15) hx dX9_actBy_15 (tgt := 39) (by decide) ?_
      obtain rfl := Option.some.inj h
      exact dx_iret hO (pc := 39) dX9_actBy_39 rfl ⟨_, rfl, rfl, rfl⟩
  · replace h := (if_neg c2).symm.trans h
    refine dx_iconst (pc := 5) hx dX9_actBy_5 kc_0 ?_
    refine dx_goto (pc := 6) hx dX9_actBy_6 (tgt := 39) (by decide) ?_
    obtain rfl := Option.some.inj h
    exact dx_iret hO (pc := 39) dX9_actBy_39 rfl ⟨_, rfl, rfl, rfl⟩
set_option maxHeartbeats 4000000 in
set_option maxRecDepth 100000 in
theorem tl_X9_year_L59 {κ : dc_KX} {Q : Option Value → dc_HP → Prop} (hO : dc_Ok κ mX9_year Q) (x2 : Int32) (x3 : Int32) : ∀ (n : Nat) (x4 : Int32) (x5 : Int32) (σ : dc_HP) (q : dc_HP), fn_X9_year_L59 x2 x3 n x4 x5 σ = some q → ∀ (hk : dc_X κ 174 [some (.ref 55), none, some (.int x2), some (.int x3), none, none, none, none, none] [] q), dc_X κ 59 [some (.ref 55), none, some (.int x2), some (.int x3), some (.int x4), some (.int x5), none, none, none] [] σ := by
  have hx : dc_Cx κ RX9 cX9_year 9 6 139 := hO.1
  intro n
  induction n with
  | zero =>
    intro x4 x5 σ q h
    cases h
  | succ n ih =>
    intro x4 x5 σ q h hk
    unfold fn_X9_year_L59 at h
    refine dx_iload (pc := 59) hx dX9_year_59 rfl ?_
    refine dx_iload_n (pc := 61) hx dX9_year_61 rfl ?_
    refine dx_icmp_ge (pc := 62) hx dX9_year_62 (tgt := 174) (by decide) (fun c62 => ?_) (fun c62 => ?_)
    · replace h := (if_pos c62).symm.trans h
      obtain rfl := Option.some.inj h
      exact dx_wk [true, true, true, true, false, false, true, true, true] <| hk
    · replace h := (if_neg c62).symm.trans h
      refine dx_ldc2 (pc := 65) hx dX9_year_65 f_X9_318 ?_
      refine dx_iload (pc := 68) hx dX9_year_68 rfl ?_
      refine dx_i2l (pc := 70) hx dX9_year_70 ?_
      refine dx_lmul (pc := 71) hx dX9_year_71 ?_
      refine dx_ldc2 (pc := 72) hx dX9_year_72 f_X9_320 ?_
      refine dx_ladd (pc := 75) hx dX9_year_75 ?_
      refine dx_ldc2 (pc := 76) hx dX9_year_76 f_X9_322 ?_
      refine dx_lrem (pc := 79) hx dX9_year_79 (by decide) ?_
      refine dx_l2i (pc := 80) hx dX9_year_80 ?_
      refine dx_istore (pc := 81) hx dX9_year_81 (dc_le rfl) (ls' := [some (.ref 55), none, some (.int x2), some (.int x3), some (.int ((((((75 : Int64)) * x4.toInt64) + ((74 : Int64))) - ((((75 : Int64)) * x4.toInt64) + ((74 : Int64))) / ((65537 : Int64)) * ((65537 : Int64))).toInt32)), some (.int x5), none, none, none]) rfl ?_
      refine dx_iload (pc := 83) hx dX9_year_83 rfl ?_
      refine dx_bipush (pc := 85) hx dX9_year_85 kb_8 ?_
      refine dx_irem (pc := 87) hx dX9_year_87 (by decide) ?_
      obtain ⟨r88, h88, h⟩ := Option.bind_eq_some_iff.mp h
      refine dx_callSir (pc := 88) (As := [.int (((((((75 : Int64)) * x4.toInt64) + ((74 : Int64))) - ((((75 : Int64)) * x4.toInt64) + ((74 : Int64))) / ((65537 : Int64)) * ((65537 : Int64))).toInt32) - ((((((75 : Int64)) * x4.toInt64) + ((74 : Int64))) - ((((75 : Int64)) * x4.toInt64) + ((74 : Int64))) / ((65537 : Int64)) * ((65537 : Int64))).toInt32) / (nI 8) * (nI 8))]) (rest := []) hx dX9_year_88 k_X9_324 rfl (dc_le rfl) (dc_le rfl) (dc_le rfl) (dc_le rfl) rfl (th_X9_actBy h88) ?_
      refine dx_istore (pc := 91) hx dX9_year_91 (dc_le rfl) (ls' := [some (.ref 55), none, some (.int x2), some (.int x3), some (.int ((((((75 : Int64)) * x4.toInt64) + ((74 : Int64))) - ((((75 : Int64)) * x4.toInt64) + ((74 : Int64))) / ((65537 : Int64)) * ((65537 : Int64))).toInt32)), some (.int x5), some (.int r88), none, none]) rfl ?_
      refine dx_iload (pc := 93) hx dX9_year_93 rfl ?_
      refine dx_bipush (pc := 95) hx dX9_year_95 kb_8 ?_
      refine dx_idiv (pc := 97) hx dX9_year_97 (by decide) ?_
      refine dx_iload (pc := 98) hx dX9_year_98 rfl ?_
      obtain ⟨q100, hr, h⟩ := Option.bind_eq_some_iff.mp h
      have hk : dc_X κ 110 [some (.ref 55), none, some (.int x2), some (.int x3), some (.int ((((((75 : Int64)) * x4.toInt64) + ((74 : Int64))) - ((((75 : Int64)) * x4.toInt64) + ((74 : Int64))) / ((65537 : Int64)) * ((65537 : Int64))).toInt32)), some (.int x5), some (.int r88), none, none] [.int q100, .int (((((((75 : Int64)) * x4.toInt64) + ((74 : Int64))) - ((((75 : Int64)) * x4.toInt64) + ((74 : Int64))) / ((65537 : Int64)) * ((65537 : Int64))).toInt32) / (nI 8))] σ := by
        clear hr
        by_cases g110 : q100 = 0
        · cases (if_pos g110).symm.trans h
        replace h := (if_neg g110).symm.trans h
        refine dx_irem (pc := 110) hx dX9_year_110 g110 ?_
        refine dx_istore (pc := 111) hx dX9_year_111 (dc_le rfl) (ls' := [some (.ref 55), none, some (.int x2), some (.int x3), some (.int ((((((75 : Int64)) * x4.toInt64) + ((74 : Int64))) - ((((75 : Int64)) * x4.toInt64) + ((74 : Int64))) / ((65537 : Int64)) * ((65537 : Int64))).toInt32)), some (.int x5), some (.int r88), some (.int ((((((((75 : Int64)) * x4.toInt64) + ((74 : Int64))) - ((((75 : Int64)) * x4.toInt64) + ((74 : Int64))) / ((65537 : Int64)) * ((65537 : Int64))).toInt32) / (nI 8)) - (((((((75 : Int64)) * x4.toInt64) + ((74 : Int64))) - ((((75 : Int64)) * x4.toInt64) + ((74 : Int64))) / ((65537 : Int64)) * ((65537 : Int64))).toInt32) / (nI 8)) / q100 * q100)), none]) rfl ?_
        refine dx_iload (pc := 113) hx dX9_year_113 rfl ?_
        refine dx_iconst (pc := 115) hx dX9_year_115 kc_1 ?_
        obtain ⟨q116, hr, h⟩ := Option.bind_eq_some_iff.mp h
        have hk : dc_X κ 143 [some (.ref 55), none, some (.int x2), some (.int x3), some (.int ((((((75 : Int64)) * x4.toInt64) + ((74 : Int64))) - ((((75 : Int64)) * x4.toInt64) + ((74 : Int64))) / ((65537 : Int64)) * ((65537 : Int64))).toInt32)), some (.int x5), some (.int r88), some (.int ((((((((75 : Int64)) * x4.toInt64) + ((74 : Int64))) - ((((75 : Int64)) * x4.toInt64) + ((74 : Int64))) / ((65537 : Int64)) * ((65537 : Int64))).toInt32) / (nI 8)) - (((((((75 : Int64)) * x4.toInt64) + ((74 : Int64))) - ((((75 : Int64)) * x4.toInt64) + ((74 : Int64))) / ((65537 : Int64)) * ((65537 : Int64))).toInt32) / (nI 8)) / q100 * q100)), none] [.int q116] σ := by
          clear hr
          refine dx_istore (pc := 143) hx dX9_year_143 (dc_le rfl) (ls' := [some (.ref 55), none, some (.int x2), some (.int x3), some (.int ((((((75 : Int64)) * x4.toInt64) + ((74 : Int64))) - ((((75 : Int64)) * x4.toInt64) + ((74 : Int64))) / ((65537 : Int64)) * ((65537 : Int64))).toInt32)), some (.int x5), some (.int r88), some (.int ((((((((75 : Int64)) * x4.toInt64) + ((74 : Int64))) - ((((75 : Int64)) * x4.toInt64) + ((74 : Int64))) / ((65537 : Int64)) * ((65537 : Int64))).toInt32) / (nI 8)) - (((((((75 : Int64)) * x4.toInt64) + ((74 : Int64))) - ((((75 : Int64)) * x4.toInt64) + ((74 : Int64))) / ((65537 : Int64)) * ((65537 : Int64))).toInt32) / (nI 8)) / q100 * q100)), some (.int q116)]) rfl ?_
          refine dx_aload_n (pc := 145) hx dX9_year_145 rfl ?_
          refine dx_iload (pc := 146) hx dX9_year_146 rfl ?_
          refine dx_iload (pc := 148) hx dX9_year_148 rfl ?_
          refine dx_iload (pc := 150) hx dX9_year_150 rfl ?_
          obtain ⟨r152, h152, h⟩ := Option.bind_eq_some_iff.mp h
          refine dx_callVir (pc := 152) (As := [.int r88, .int ((((((((75 : Int64)) * x4.toInt64) + ((74 : Int64))) - ((((75 : Int64)) * x4.toInt64) + ((74 : Int64))) / ((65537 : Int64)) * ((65537 : Int64))).toInt32) / (nI 8)) - (((((((75 : Int64)) * x4.toInt64) + ((74 : Int64))) - ((((75 : Int64)) * x4.toInt64) + ((74 : Int64))) / ((65537 : Int64)) * ((65537 : Int64))).toInt32) / (nI 8)) / q100 * q100), .int q116]) (rest := []) hx dX9_year_152 k_X9_192 rfl rfl rfl rfl (dc_le rfl) (dc_le rfl) (dc_le rfl) (dc_le rfl) rfl (th_X9_whyNot h152) ?_
          refine dx_if_ne (pc := 155) hx dX9_year_155 (tgt := 168) (by decide) (fun c155 => ?_) (fun c155 => ?_)
          · replace h := (if_neg c155).symm.trans h
            refine dx_iinc (pc := 168) hx dX9_year_168 rfl (v := x5 + nI 1) (congrArg (fun z => x5 + z) kc_1) (dc_le rfl) (ls' := [some (.ref 55), none, some (.int x2), some (.int x3), some (.int ((((((75 : Int64)) * x4.toInt64) + ((74 : Int64))) - ((((75 : Int64)) * x4.toInt64) + ((74 : Int64))) / ((65537 : Int64)) * ((65537 : Int64))).toInt32)), some (.int (x5 + nI 1)), some (.int r88), some (.int ((((((((75 : Int64)) * x4.toInt64) + ((74 : Int64))) - ((((75 : Int64)) * x4.toInt64) + ((74 : Int64))) / ((65537 : Int64)) * ((65537 : Int64))).toInt32) / (nI 8)) - (((((((75 : Int64)) * x4.toInt64) + ((74 : Int64))) - ((((75 : Int64)) * x4.toInt64) + ((74 : Int64))) / ((65537 : Int64)) * ((65537 : Int64))).toInt32) / (nI 8)) / q100 * q100)), some (.int q116)]) rfl ?_
            refine dx_goto (pc := 171) hx dX9_year_171 (tgt := 59) (by decide) ?_
            exact dx_wk [true, true, true, true, true, true, false, false, false] <| (ih ((((((75 : Int64)) * x4.toInt64) + ((74 : Int64))) - ((((75 : Int64)) * x4.toInt64) + ((74 : Int64))) / ((65537 : Int64)) * ((65537 : Int64))).toInt32) (x5 + nI 1) σ q h hk)
          · replace h := (if_pos c155).symm.trans h
            refine dx_aload_n (pc := 158) hx dX9_year_158 rfl ?_
            refine dx_iload (pc := 159) hx dX9_year_159 rfl ?_
            refine dx_iload (pc := 161) hx dX9_year_161 rfl ?_
            refine dx_iload (pc := 163) hx dX9_year_163 rfl ?_
            obtain ⟨r165, h165, h⟩ := Option.bind_eq_some_iff.mp h
            refine dx_callVvw (pc := 165) (As := [.int r88, .int ((((((((75 : Int64)) * x4.toInt64) + ((74 : Int64))) - ((((75 : Int64)) * x4.toInt64) + ((74 : Int64))) / ((65537 : Int64)) * ((65537 : Int64))).toInt32) / (nI 8)) - (((((((75 : Int64)) * x4.toInt64) + ((74 : Int64))) - ((((75 : Int64)) * x4.toInt64) + ((74 : Int64))) / ((65537 : Int64)) * ((65537 : Int64))).toInt32) / (nI 8)) / q100 * q100), .int q116]) (rest := []) hx dX9_year_165 k_X9_203 rfl rfl rfl rfl (dc_le rfl) (dc_le rfl) (dc_le rfl) (dc_le rfl) rfl (th_X9_happen h165) ?_
            refine dx_iinc (pc := 168) hx dX9_year_168 rfl (v := x5 + nI 1) (congrArg (fun z => x5 + z) kc_1) (dc_le rfl) (ls' := [some (.ref 55), none, some (.int x2), some (.int x3), some (.int ((((((75 : Int64)) * x4.toInt64) + ((74 : Int64))) - ((((75 : Int64)) * x4.toInt64) + ((74 : Int64))) / ((65537 : Int64)) * ((65537 : Int64))).toInt32)), some (.int (x5 + nI 1)), some (.int r88), some (.int ((((((((75 : Int64)) * x4.toInt64) + ((74 : Int64))) - ((((75 : Int64)) * x4.toInt64) + ((74 : Int64))) / ((65537 : Int64)) * ((65537 : Int64))).toInt32) / (nI 8)) - (((((((75 : Int64)) * x4.toInt64) + ((74 : Int64))) - ((((75 : Int64)) * x4.toInt64) + ((74 : Int64))) / ((65537 : Int64)) * ((65537 : Int64))).toInt32) / (nI 8)) / q100 * q100)), some (.int q116)]) rfl ?_
            refine dx_goto (pc := 171) hx dX9_year_171 (tgt := 59) (by decide) ?_
            exact dx_wk [true, true, true, true, true, true, false, false, false] <| (ih ((((((75 : Int64)) * x4.toInt64) + ((74 : Int64))) - ((((75 : Int64)) * x4.toInt64) + ((74 : Int64))) / ((65537 : Int64)) * ((65537 : Int64))).toInt32) (x5 + nI 1) r165 q h hk)
        replace h := hr
        clear hr
        refine dx_icmp_ne (pc := 116) hx dX9_year_116 (tgt := 135) (by decide) (fun c116 => ?_) (fun c116 => ?_)
        · replace h := (if_neg c116).symm.trans h
          refine dx_iload (pc := 135) hx dX9_year_135 rfl ?_
          refine dx_bipush (pc := 137) hx dX9_year_137 kb_64 ?_
          refine dx_idiv (pc := 139) hx dX9_year_139 (by decide) ?_
          refine dx_bipush (pc := 140) hx dX9_year_140 kb_8 ?_
          refine dx_irem (pc := 142) hx dX9_year_142 (by decide) ?_
          obtain rfl := Option.some.inj h
          exact hk
        · replace h := (if_pos c116).symm.trans h
          refine dx_bipush (pc := 119) hx dX9_year_119 kb_10 ?_
          refine dx_iconst (pc := 121) hx dX9_year_121 kc_1 ?_
          refine dx_iload (pc := 122) hx dX9_year_122 rfl ?_
          refine dx_bipush (pc := 124) hx dX9_year_124 kb_64 ?_
          refine dx_idiv (pc := 126) hx dX9_year_126 (by decide) ?_
          refine dx_bipush (pc := 127) hx dX9_year_127 kb_9 ?_
          refine dx_irem (pc := 129) hx dX9_year_129 (by decide) ?_
          refine dx_iadd (pc := 130) hx dX9_year_130 ?_
          refine dx_imul (pc := 131) hx dX9_year_131 ?_
          refine dx_goto (pc := 132) hx dX9_year_132 (tgt := 143) (by decide) ?_
          obtain rfl := Option.some.inj h
          exact hk
      replace h := hr
      clear hr
      refine dx_if_ne (pc := 100) hx dX9_year_100 (tgt := 108) (by decide) (fun c100 => ?_) (fun c100 => ?_)
      · replace h := (if_neg c100).symm.trans h
        refine dx_bipush (pc := 108) hx dX9_year_108 kb_8 ?_
        obtain rfl := Option.some.inj h
        exact hk
      · replace h := (if_pos c100).symm.trans h
        refine dx_bipush (pc := 103) hx dX9_year_103 kb_6 ?_
        refine dx_goto (pc := 105) hx dX9_year_105 (tgt := 110) (by decide) ?_
        obtain rfl := Option.some.inj h
        exact hk
set_option maxHeartbeats 4000000 in
set_option maxRecDepth 100000 in
theorem th_X9_year {σ : dc_HP} {x1 : Int32} {x2 : Int32} {x3 : Int32} {r : Int32 × dc_HP} (h : fn_X9_year σ x1 x2 x3 = some r) : dc_G mX9_year [.ref 55, .int x1, .int x2, .int x3] σ (dc_qi (fun x τ => x = r.1 ∧ τ = r.2)) := by
  intro κ hO
  have hx : dc_Cx κ RX9 cX9_year 9 6 139 := hO.1
  show dc_X κ 0 [some (.ref 55), some (.int x1), some (.int x2), some (.int x3), none, none, none, none, none] [] σ
  unfold fn_X9_year at h
  refine dx_iload_n (pc := 0) hx dX9_year_0 rfl ?_
  refine dx_i2l (pc := 1) hx dX9_year_1 ?_
  refine dx_lconst (pc := 2) hx dX9_year_2 (v := (0 : Int64)) (by decide) ?_
  refine dx_ldc2 (pc := 3) hx dX9_year_3 f_X9_316 ?_
  obtain ⟨r6, h6, h⟩ := Option.bind_eq_some_iff.mp h
  refine dx_callSir (pc := 6) (As := [.long x1.toInt64, .long ((0 : Int64)), .long ((9999 : Int64))]) (rest := []) hx dX9_year_6 k_X9_77 rfl (dc_le rfl) (dc_le rfl) (dc_le rfl) (dc_le rfl) rfl (th_X9_in h6) ?_
  refine dx_if_eq (pc := 9) hx dX9_year_9 (tgt := 36) (by decide) (fun c9 => ?_) (fun c9 => ?_)
  · replace h := (if_pos c9).symm.trans h
    refine dx_bipush (pc := 36) hx dX9_year_36 kb_m2 ?_
    obtain rfl := Option.some.inj h
    exact dx_iret hO (pc := 38) dX9_year_38 rfl ⟨_, rfl, rfl, rfl⟩
  · replace h := (if_neg c9).symm.trans h
    refine dx_iload_n (pc := 12) hx dX9_year_12 rfl ?_
    refine dx_i2l (pc := 13) hx dX9_year_13 ?_
    refine dx_lconst (pc := 14) hx dX9_year_14 (v := (1 : Int64)) (by decide) ?_
    refine dx_ldc2 (pc := 15) hx dX9_year_15 f_X9_248 ?_
    obtain ⟨r18, h18, h⟩ := Option.bind_eq_some_iff.mp h
    refine dx_callSir (pc := 18) (As := [.long x2.toInt64, .long ((1 : Int64)), .long ((99 : Int64))]) (rest := []) hx dX9_year_18 k_X9_77 rfl (dc_le rfl) (dc_le rfl) (dc_le rfl) (dc_le rfl) rfl (th_X9_in h18) ?_
    refine dx_if_eq (pc := 21) hx dX9_year_21 (tgt := 36) (by decide) (fun c21 => ?_) (fun c21 => ?_)
    · replace h := (if_pos c21).symm.trans h
      refine dx_bipush (pc := 36) hx dX9_year_36 kb_m2 ?_
      obtain rfl := Option.some.inj h
      exact dx_iret hO (pc := 38) dX9_year_38 rfl ⟨_, rfl, rfl, rfl⟩
    · replace h := (if_neg c21).symm.trans h
      refine dx_iload_n (pc := 24) hx dX9_year_24 rfl ?_
      refine dx_i2l (pc := 25) hx dX9_year_25 ?_
      refine dx_lconst (pc := 26) hx dX9_year_26 (v := (0 : Int64)) (by decide) ?_
      refine dx_ldc2 (pc := 27) hx dX9_year_27 f_X9_219 ?_
      obtain ⟨r30, h30, h⟩ := Option.bind_eq_some_iff.mp h
      refine dx_callSir (pc := 30) (As := [.long x3.toInt64, .long ((0 : Int64)), .long ((2 : Int64))]) (rest := []) hx dX9_year_30 k_X9_77 rfl (dc_le rfl) (dc_le rfl) (dc_le rfl) (dc_le rfl) rfl (th_X9_in h30) ?_
      refine dx_if_ne (pc := 33) hx dX9_year_33 (tgt := 39) (by decide) (fun c33 => ?_) (fun c33 => ?_)
      · replace h := (if_neg c33).symm.trans h
        refine dx_aload_n (pc := 39) hx dX9_year_39 rfl ?_
        obtain ⟨r40, h40, h⟩ := Option.bind_eq_some_iff.mp h
        refine dx_callVvw (pc := 40) (As := []) (rest := []) hx dX9_year_40 k_X9_210 rfl rfl rfl rfl (dc_le rfl) (dc_le rfl) (dc_le rfl) (dc_le rfl) rfl (th_X9_keepNow h40) ?_
        refine dx_aload_n (pc := 43) hx dX9_year_43 rfl ?_
        refine dx_iconst (pc := 44) hx dX9_year_44 kc_0 ?_
        refine dx_putI (pc := 45) hx dX9_year_45 f_X9_163 rfl rfl tyX9_ok rfl (Or.inl ⟨rfl, rfl⟩) ?_
        refine dx_nm (fun s45 e45 => ?_)
        replace h := dc_lt e45 h
        refine dx_aload_n (pc := 48) hx dX9_year_48 rfl ?_
        refine dx_iconst (pc := 49) hx dX9_year_49 kc_0 ?_
        refine dx_putI (pc := 50) hx dX9_year_50 f_X9_166 rfl rfl tyX9_ok rfl (Or.inl ⟨rfl, rfl⟩) ?_
        refine dx_nm (fun s50 e50 => ?_)
        replace h := dc_lt e50 h
        refine dx_iload_n (pc := 53) hx dX9_year_53 rfl ?_
        refine dx_istore (pc := 54) hx dX9_year_54 (dc_le rfl) (ls' := [some (.ref 55), some (.int x1), some (.int x2), some (.int x3), some (.int x1), none, none, none, none]) rfl ?_
        refine dx_iconst (pc := 56) hx dX9_year_56 kc_0 ?_
        refine dx_istore (pc := 57) hx dX9_year_57 (dc_le rfl) (ls' := [some (.ref 55), some (.int x1), some (.int x2), some (.int x3), some (.int x1), some (.int (nI 0)), none, none, none]) rfl ?_
        obtain ⟨q59, h59, h⟩ := Option.bind_eq_some_iff.mp h
        refine dx_wk [true, false, true, true, true, true, true, true, true] <| (tl_X9_year_L59 hO x2 x3 200 x1 (nI 0) s50 q59 h59 ?_)
        refine dx_iload_n (pc := 174) hx dX9_year_174 rfl ?_
        obtain ⟨q175, hr, h⟩ := Option.bind_eq_some_iff.mp h
        have hk : dc_X κ 211 [some (.ref 55), none, some (.int x2), some (.int x3), none, none, none, none, none] [.int q175] q59 := by
          clear hr
          refine dx_istore (pc := 211) hx dX9_year_211 (dc_le rfl) (ls' := [some (.ref 55), none, some (.int x2), some (.int x3), none, some (.int q175), none, none, none]) rfl ?_
          refine dx_aload_n (pc := 213) hx dX9_year_213 rfl ?_
          refine dx_iload (pc := 214) hx dX9_year_214 rfl ?_
          obtain ⟨r216, h216, h⟩ := Option.bind_eq_some_iff.mp h
          refine dx_callViw (pc := 216) (As := [.int q175]) (rest := []) hx dX9_year_216 k_X9_224 rfl rfl rfl rfl (dc_le rfl) (dc_le rfl) (dc_le rfl) (dc_le rfl) rfl (th_X9_back h216) ?_
          obtain rfl := Option.some.inj h
          exact dx_iret hO (pc := 219) dX9_year_219 rfl ⟨_, rfl, rfl, rfl⟩
        replace h := hr
        clear hr
        refine dx_if_ne (pc := 175) hx dX9_year_175 (tgt := 185) (by decide) (fun c175 => ?_) (fun c175 => ?_)
        · replace h := (if_neg c175).symm.trans h
          refine dx_iload_n (pc := 185) hx dX9_year_185 rfl ?_
          refine dx_iconst (pc := 186) hx dX9_year_186 kc_1 ?_
          refine dx_icmp_ne (pc := 187) hx dX9_year_187 (tgt := 207) (by decide) (fun c187 => ?_) (fun c187 => ?_)
          · replace h := (if_neg c187).symm.trans h
            refine dx_aload_n (pc := 207) hx dX9_year_207 rfl ?_
            refine dx_getI (pc := 208) hx dX9_year_208 f_X9_163 rfl rfl ?_
            obtain rfl := Option.some.inj h
            exact hk
          · replace h := (if_pos c187).symm.trans h
            refine dx_aload_n (pc := 190) hx dX9_year_190 rfl ?_
            refine dx_getI (pc := 191) hx dX9_year_191 f_X9_81 rfl rfl ?_
            refine dx_aload_n (pc := 194) hx dX9_year_194 rfl ?_
            obtain ⟨r195, h195, h⟩ := Option.bind_eq_some_iff.mp h
            refine dx_callVir (pc := 195) (As := []) (rest := [.int (q59.1 55 0)]) hx dX9_year_195 k_X9_199 rfl rfl rfl rfl (dc_le rfl) (dc_le rfl) (dc_le rfl) (dc_le rfl) rfl (th_X9_owing h195) ?_
            refine dx_iconst (pc := 198) hx dX9_year_198 kc_m1 ?_
            refine dx_ixor (pc := 199) hx dX9_year_199 ?_
            refine dx_iand (pc := 200) hx dX9_year_200 ?_
            obtain ⟨r201, h201, h⟩ := Option.bind_eq_some_iff.mp h
            refine dx_callSir (pc := 201) (As := [.int ((q59.1 55 0) &&& (r195 ^^^ ((-1 : Int32))))]) (rest := []) hx dX9_year_201 k_X9_95 rfl (dc_le rfl) (dc_le rfl) (dc_le rfl) (dc_le rfl) rfl (th_X9_bitsOf h201) ?_
            refine dx_goto (pc := 204) hx dX9_year_204 (tgt := 211) (by decide) ?_
            obtain rfl := Option.some.inj h
            exact hk
        · replace h := (if_pos c175).symm.trans h
          refine dx_aload_n (pc := 178) hx dX9_year_178 rfl ?_
          obtain ⟨r179, h179, h⟩ := Option.bind_eq_some_iff.mp h
          refine dx_callVir (pc := 179) (As := []) (rest := []) hx dX9_year_179 k_X9_227 rfl rfl rfl rfl (dc_le rfl) (dc_le rfl) (dc_le rfl) (dc_le rfl) rfl (th_X9_allDebts h179) ?_
          refine dx_goto (pc := 182) hx dX9_year_182 (tgt := 211) (by decide) ?_
          obtain rfl := Option.some.inj h
          exact hk
      · replace h := (if_pos c33).symm.trans h
        refine dx_bipush (pc := 36) hx dX9_year_36 kb_m2 ?_
        obtain rfl := Option.some.inj h
        exact dx_iret hO (pc := 38) dX9_year_38 rfl ⟨_, rfl, rfl, rfl⟩
set_option maxHeartbeats 4000000 in
set_option maxRecDepth 100000 in
theorem th_X9_pass {σ : dc_HP} {x1 : Int32} {r : Int32 × dc_HP} (h : fn_X9_pass σ x1 = some r) : dc_G mX9_pass [.ref 55, .int x1] σ (dc_qi (fun x τ => x = r.1 ∧ τ = r.2)) := by
  intro κ hO
  have hx : dc_Cx κ RX9 cX9_pass 3 0 0 := hO.1
  show dc_X κ 0 [some (.ref 55), some (.int x1), none] [] σ
  unfold fn_X9_pass at h
  refine dx_aload_n (pc := 0) hx dX9_pass_0 rfl ?_
  refine dx_getZ (pc := 1) hx dX9_pass_1 f_X9_327 rfl rfl ?_
  obtain ⟨q4, hr, h⟩ := Option.bind_eq_some_iff.mp h
  have hk : dc_X κ 20 [some (.ref 55), some (.int x1), none] [.int q4] σ := by
    clear hr
    refine dx_istore_n (pc := 20) hx dX9_pass_20 (dc_le rfl) (ls' := [some (.ref 55), some (.int x1), some (.int q4)]) rfl ?_
    refine dx_aload_n (pc := 21) hx dX9_pass_21 rfl ?_
    refine dx_getR (r := 75) (pc := 22) hx dX9_pass_22 f_X9_68 rfl rfl ?_
    refine dx_aload_n (pc := 25) hx dX9_pass_25 rfl ?_
    refine dx_getI (pc := 26) hx dX9_pass_26 f_X9_331 rfl rfl ?_
    refine dx_iload_n (pc := 29) hx dX9_pass_29 rfl ?_
    by_cases g30 : (σ.1 55 34) < 0 ∨ 180 ≤ (σ.1 55 34).toNatClampNeg
    · cases (if_pos g30).symm.trans h
    replace h := (if_neg g30).symm.trans h
    refine dx_iast (pc := 30) hx dX9_pass_30 rfl g30 ?_
    refine dx_nm (fun s30 e30 => ?_)
    replace h := dc_lt e30 h
    refine dx_aload_n (pc := 31) hx dX9_pass_31 rfl ?_
    refine dx_dup (pc := 32) hx dX9_pass_32 rfl ?_
    refine dx_getI (pc := 33) hx dX9_pass_33 f_X9_331 rfl rfl ?_
    refine dx_iconst (pc := 36) hx dX9_pass_36 kc_1 ?_
    refine dx_iadd (pc := 37) hx dX9_pass_37 ?_
    refine dx_putI (pc := 38) hx dX9_pass_38 f_X9_331 rfl rfl tyX9_ok rfl (Or.inl ⟨rfl, rfl⟩) ?_
    refine dx_nm (fun s38 e38 => ?_)
    replace h := dc_lt e38 h
    refine dx_iload_n (pc := 41) hx dX9_pass_41 rfl ?_
    obtain rfl := Option.some.inj h
    exact dx_iret hO (pc := 42) dX9_pass_42 rfl ⟨_, rfl, rfl, rfl⟩
  replace h := hr
  clear hr
  refine dx_if_eq (pc := 4) hx dX9_pass_4 (tgt := 11) (by decide) (fun c4 => ?_) (fun c4 => ?_)
  · replace h := (if_pos c4).symm.trans h
    refine dx_aload_n (pc := 11) hx dX9_pass_11 rfl ?_
    refine dx_getR (r := 75) (pc := 12) hx dX9_pass_12 f_X9_68 rfl rfl ?_
    refine dx_aload_n (pc := 15) hx dX9_pass_15 rfl ?_
    refine dx_getI (pc := 16) hx dX9_pass_16 f_X9_331 rfl rfl ?_
    by_cases g19 : (σ.1 55 34) < 0 ∨ 180 ≤ (σ.1 55 34).toNatClampNeg
    · cases (if_pos g19).symm.trans h
    replace h := (if_neg g19).symm.trans h
    refine dx_iald (pc := 19) hx dX9_pass_19 rfl g19 ?_
    obtain rfl := Option.some.inj h
    exact hk
  · replace h := (if_neg c4).symm.trans h
    refine dx_iload_n (pc := 7) hx dX9_pass_7 rfl ?_
    refine dx_goto (pc := 8) hx dX9_pass_8 (tgt := 20) (by decide) ?_
    obtain rfl := Option.some.inj h
    exact hk
set_option maxHeartbeats 4000000 in
set_option maxRecDepth 100000 in
theorem tl_X9_passRow_56_L2 {κ : dc_KX} {Q : Option Value → dc_HP → Prop} (hO : dc_Ok κ mX9_passRow Q) (x2 : Int32) : ∀ (n : Nat) (x3 : Int32) (σ : dc_HP) (q : dc_HP), fn_X9_passRow_L2 56 x2 n x3 σ = some q → ∀ (hk : dc_X κ 23 [some (.ref 55), some (.ref 56), some (.int x2), none] [] q), dc_X κ 2 [some (.ref 55), some (.ref 56), some (.int x2), some (.int x3)] [] σ := by
  have hx : dc_Cx κ RX9 cX9_passRow 4 1 22 := hO.1
  intro n
  induction n with
  | zero =>
    intro x3 σ q h
    cases h
  | succ n ih =>
    intro x3 σ q h hk
    unfold fn_X9_passRow_L2 at h
    refine dx_iload_n (pc := 2) hx dX9_passRow_2 rfl ?_
    refine dx_iload_n (pc := 3) hx dX9_passRow_3 rfl ?_
    refine dx_icmp_ge (pc := 4) hx dX9_passRow_4 (tgt := 23) (by decide) (fun c4 => ?_) (fun c4 => ?_)
    · replace h := (if_pos c4).symm.trans h
      obtain rfl := Option.some.inj h
      exact dx_wk [true, true, true, false] <| hk
    · replace h := (if_neg c4).symm.trans h
      refine dx_aload_n (pc := 7) hx dX9_passRow_7 rfl ?_
      refine dx_iload_n (pc := 8) hx dX9_passRow_8 rfl ?_
      refine dx_aload_n (pc := 9) hx dX9_passRow_9 rfl ?_
      refine dx_aload_n (pc := 10) hx dX9_passRow_10 rfl ?_
      refine dx_iload_n (pc := 11) hx dX9_passRow_11 rfl ?_
      by_cases g12 : x3 < 0 ∨ 8 ≤ x3.toNatClampNeg
      · cases (if_pos g12).symm.trans h
      replace h := (if_neg g12).symm.trans h
      refine dx_iald (pc := 12) hx dX9_passRow_12 rfl g12 ?_
      obtain ⟨r13, h13, h⟩ := Option.bind_eq_some_iff.mp h
      refine dx_callViw (pc := 13) (As := [.int (σ.1 56 x3.toNatClampNeg)]) (rest := [.int x3, .ref 56]) hx dX9_passRow_13 k_X9_334 rfl rfl rfl rfl (dc_le rfl) (dc_le rfl) (dc_le rfl) (dc_le rfl) rfl (th_X9_pass h13) ?_
      by_cases g16 : x3 < 0 ∨ 8 ≤ x3.toNatClampNeg
      · cases (if_pos g16).symm.trans h
      replace h := (if_neg g16).symm.trans h
      refine dx_iast (pc := 16) hx dX9_passRow_16 rfl g16 ?_
      refine dx_nm (fun s16 e16 => ?_)
      replace h := dc_lt e16 h
      refine dx_iinc (pc := 17) hx dX9_passRow_17 rfl (v := x3 + nI 1) (congrArg (fun z => x3 + z) kc_1) (dc_le rfl) (ls' := [some (.ref 55), some (.ref 56), some (.int x2), some (.int (x3 + nI 1))]) rfl ?_
      refine dx_goto (pc := 20) hx dX9_passRow_20 (tgt := 2) (by decide) ?_
      exact (ih (x3 + nI 1) s16 q h hk)
set_option maxHeartbeats 4000000 in
set_option maxRecDepth 100000 in
theorem th_X9_passRow_56 {σ : dc_HP} {x2 : Int32} {r : dc_HP} (h : fn_X9_passRow σ 56 x2 = some r) : dc_G mX9_passRow [.ref 55, .ref 56, .int x2] σ (dc_qv (fun τ => τ = r)) := by
  intro κ hO
  have hx : dc_Cx κ RX9 cX9_passRow 4 1 22 := hO.1
  show dc_X κ 0 [some (.ref 55), some (.ref 56), some (.int x2), none] [] σ
  unfold fn_X9_passRow at h
  refine dx_iconst (pc := 0) hx dX9_passRow_0 kc_0 ?_
  refine dx_istore_n (pc := 1) hx dX9_passRow_1 (dc_le rfl) (ls' := [some (.ref 55), some (.ref 56), some (.int x2), some (.int (nI 0))]) rfl ?_
  obtain ⟨q2, h2, h⟩ := Option.bind_eq_some_iff.mp h
  refine (tl_X9_passRow_56_L2 hO x2 200 (nI 0) σ q2 h2 ?_)
  obtain rfl := Option.some.inj h
  exact dx_vret hO (pc := 23) dX9_passRow_23 rfl ⟨rfl, rfl⟩
set_option maxHeartbeats 4000000 in
set_option maxRecDepth 100000 in
theorem tl_X9_passRow_57_L2 {κ : dc_KX} {Q : Option Value → dc_HP → Prop} (hO : dc_Ok κ mX9_passRow Q) (x2 : Int32) : ∀ (n : Nat) (x3 : Int32) (σ : dc_HP) (q : dc_HP), fn_X9_passRow_L2 57 x2 n x3 σ = some q → ∀ (hk : dc_X κ 23 [some (.ref 55), some (.ref 57), some (.int x2), none] [] q), dc_X κ 2 [some (.ref 55), some (.ref 57), some (.int x2), some (.int x3)] [] σ := by
  have hx : dc_Cx κ RX9 cX9_passRow 4 1 22 := hO.1
  intro n
  induction n with
  | zero =>
    intro x3 σ q h
    cases h
  | succ n ih =>
    intro x3 σ q h hk
    unfold fn_X9_passRow_L2 at h
    refine dx_iload_n (pc := 2) hx dX9_passRow_2 rfl ?_
    refine dx_iload_n (pc := 3) hx dX9_passRow_3 rfl ?_
    refine dx_icmp_ge (pc := 4) hx dX9_passRow_4 (tgt := 23) (by decide) (fun c4 => ?_) (fun c4 => ?_)
    · replace h := (if_pos c4).symm.trans h
      obtain rfl := Option.some.inj h
      exact dx_wk [true, true, true, false] <| hk
    · replace h := (if_neg c4).symm.trans h
      refine dx_aload_n (pc := 7) hx dX9_passRow_7 rfl ?_
      refine dx_iload_n (pc := 8) hx dX9_passRow_8 rfl ?_
      refine dx_aload_n (pc := 9) hx dX9_passRow_9 rfl ?_
      refine dx_aload_n (pc := 10) hx dX9_passRow_10 rfl ?_
      refine dx_iload_n (pc := 11) hx dX9_passRow_11 rfl ?_
      by_cases g12 : x3 < 0 ∨ 8 ≤ x3.toNatClampNeg
      · cases (if_pos g12).symm.trans h
      replace h := (if_neg g12).symm.trans h
      refine dx_iald (pc := 12) hx dX9_passRow_12 rfl g12 ?_
      obtain ⟨r13, h13, h⟩ := Option.bind_eq_some_iff.mp h
      refine dx_callViw (pc := 13) (As := [.int (σ.1 57 x3.toNatClampNeg)]) (rest := [.int x3, .ref 57]) hx dX9_passRow_13 k_X9_334 rfl rfl rfl rfl (dc_le rfl) (dc_le rfl) (dc_le rfl) (dc_le rfl) rfl (th_X9_pass h13) ?_
      by_cases g16 : x3 < 0 ∨ 8 ≤ x3.toNatClampNeg
      · cases (if_pos g16).symm.trans h
      replace h := (if_neg g16).symm.trans h
      refine dx_iast (pc := 16) hx dX9_passRow_16 rfl g16 ?_
      refine dx_nm (fun s16 e16 => ?_)
      replace h := dc_lt e16 h
      refine dx_iinc (pc := 17) hx dX9_passRow_17 rfl (v := x3 + nI 1) (congrArg (fun z => x3 + z) kc_1) (dc_le rfl) (ls' := [some (.ref 55), some (.ref 57), some (.int x2), some (.int (x3 + nI 1))]) rfl ?_
      refine dx_goto (pc := 20) hx dX9_passRow_20 (tgt := 2) (by decide) ?_
      exact (ih (x3 + nI 1) s16 q h hk)
set_option maxHeartbeats 4000000 in
set_option maxRecDepth 100000 in
theorem th_X9_passRow_57 {σ : dc_HP} {x2 : Int32} {r : dc_HP} (h : fn_X9_passRow σ 57 x2 = some r) : dc_G mX9_passRow [.ref 55, .ref 57, .int x2] σ (dc_qv (fun τ => τ = r)) := by
  intro κ hO
  have hx : dc_Cx κ RX9 cX9_passRow 4 1 22 := hO.1
  show dc_X κ 0 [some (.ref 55), some (.ref 57), some (.int x2), none] [] σ
  unfold fn_X9_passRow at h
  refine dx_iconst (pc := 0) hx dX9_passRow_0 kc_0 ?_
  refine dx_istore_n (pc := 1) hx dX9_passRow_1 (dc_le rfl) (ls' := [some (.ref 55), some (.ref 57), some (.int x2), some (.int (nI 0))]) rfl ?_
  obtain ⟨q2, h2, h⟩ := Option.bind_eq_some_iff.mp h
  refine (tl_X9_passRow_57_L2 hO x2 200 (nI 0) σ q2 h2 ?_)
  obtain rfl := Option.some.inj h
  exact dx_vret hO (pc := 23) dX9_passRow_23 rfl ⟨rfl, rfl⟩
set_option maxHeartbeats 4000000 in
set_option maxRecDepth 100000 in
theorem tl_X9_passRow_58_L2 {κ : dc_KX} {Q : Option Value → dc_HP → Prop} (hO : dc_Ok κ mX9_passRow Q) (x2 : Int32) : ∀ (n : Nat) (x3 : Int32) (σ : dc_HP) (q : dc_HP), fn_X9_passRow_L2 58 x2 n x3 σ = some q → ∀ (hk : dc_X κ 23 [some (.ref 55), some (.ref 58), some (.int x2), none] [] q), dc_X κ 2 [some (.ref 55), some (.ref 58), some (.int x2), some (.int x3)] [] σ := by
  have hx : dc_Cx κ RX9 cX9_passRow 4 1 22 := hO.1
  intro n
  induction n with
  | zero =>
    intro x3 σ q h
    cases h
  | succ n ih =>
    intro x3 σ q h hk
    unfold fn_X9_passRow_L2 at h
    refine dx_iload_n (pc := 2) hx dX9_passRow_2 rfl ?_
    refine dx_iload_n (pc := 3) hx dX9_passRow_3 rfl ?_
    refine dx_icmp_ge (pc := 4) hx dX9_passRow_4 (tgt := 23) (by decide) (fun c4 => ?_) (fun c4 => ?_)
    · replace h := (if_pos c4).symm.trans h
      obtain rfl := Option.some.inj h
      exact dx_wk [true, true, true, false] <| hk
    · replace h := (if_neg c4).symm.trans h
      refine dx_aload_n (pc := 7) hx dX9_passRow_7 rfl ?_
      refine dx_iload_n (pc := 8) hx dX9_passRow_8 rfl ?_
      refine dx_aload_n (pc := 9) hx dX9_passRow_9 rfl ?_
      refine dx_aload_n (pc := 10) hx dX9_passRow_10 rfl ?_
      refine dx_iload_n (pc := 11) hx dX9_passRow_11 rfl ?_
      by_cases g12 : x3 < 0 ∨ 24 ≤ x3.toNatClampNeg
      · cases (if_pos g12).symm.trans h
      replace h := (if_neg g12).symm.trans h
      refine dx_iald (pc := 12) hx dX9_passRow_12 rfl g12 ?_
      obtain ⟨r13, h13, h⟩ := Option.bind_eq_some_iff.mp h
      refine dx_callViw (pc := 13) (As := [.int (σ.1 58 x3.toNatClampNeg)]) (rest := [.int x3, .ref 58]) hx dX9_passRow_13 k_X9_334 rfl rfl rfl rfl (dc_le rfl) (dc_le rfl) (dc_le rfl) (dc_le rfl) rfl (th_X9_pass h13) ?_
      by_cases g16 : x3 < 0 ∨ 24 ≤ x3.toNatClampNeg
      · cases (if_pos g16).symm.trans h
      replace h := (if_neg g16).symm.trans h
      refine dx_iast (pc := 16) hx dX9_passRow_16 rfl g16 ?_
      refine dx_nm (fun s16 e16 => ?_)
      replace h := dc_lt e16 h
      refine dx_iinc (pc := 17) hx dX9_passRow_17 rfl (v := x3 + nI 1) (congrArg (fun z => x3 + z) kc_1) (dc_le rfl) (ls' := [some (.ref 55), some (.ref 58), some (.int x2), some (.int (x3 + nI 1))]) rfl ?_
      refine dx_goto (pc := 20) hx dX9_passRow_20 (tgt := 2) (by decide) ?_
      exact (ih (x3 + nI 1) s16 q h hk)
set_option maxHeartbeats 4000000 in
set_option maxRecDepth 100000 in
theorem th_X9_passRow_58 {σ : dc_HP} {x2 : Int32} {r : dc_HP} (h : fn_X9_passRow σ 58 x2 = some r) : dc_G mX9_passRow [.ref 55, .ref 58, .int x2] σ (dc_qv (fun τ => τ = r)) := by
  intro κ hO
  have hx : dc_Cx κ RX9 cX9_passRow 4 1 22 := hO.1
  show dc_X κ 0 [some (.ref 55), some (.ref 58), some (.int x2), none] [] σ
  unfold fn_X9_passRow at h
  refine dx_iconst (pc := 0) hx dX9_passRow_0 kc_0 ?_
  refine dx_istore_n (pc := 1) hx dX9_passRow_1 (dc_le rfl) (ls' := [some (.ref 55), some (.ref 58), some (.int x2), some (.int (nI 0))]) rfl ?_
  obtain ⟨q2, h2, h⟩ := Option.bind_eq_some_iff.mp h
  refine (tl_X9_passRow_58_L2 hO x2 200 (nI 0) σ q2 h2 ?_)
  obtain rfl := Option.some.inj h
  exact dx_vret hO (pc := 23) dX9_passRow_23 rfl ⟨rfl, rfl⟩
set_option maxHeartbeats 4000000 in
set_option maxRecDepth 100000 in
theorem tl_X9_passRow_59_L2 {κ : dc_KX} {Q : Option Value → dc_HP → Prop} (hO : dc_Ok κ mX9_passRow Q) (x2 : Int32) : ∀ (n : Nat) (x3 : Int32) (σ : dc_HP) (q : dc_HP), fn_X9_passRow_L2 59 x2 n x3 σ = some q → ∀ (hk : dc_X κ 23 [some (.ref 55), some (.ref 59), some (.int x2), none] [] q), dc_X κ 2 [some (.ref 55), some (.ref 59), some (.int x2), some (.int x3)] [] σ := by
  have hx : dc_Cx κ RX9 cX9_passRow 4 1 22 := hO.1
  intro n
  induction n with
  | zero =>
    intro x3 σ q h
    cases h
  | succ n ih =>
    intro x3 σ q h hk
    unfold fn_X9_passRow_L2 at h
    refine dx_iload_n (pc := 2) hx dX9_passRow_2 rfl ?_
    refine dx_iload_n (pc := 3) hx dX9_passRow_3 rfl ?_
    refine dx_icmp_ge (pc := 4) hx dX9_passRow_4 (tgt := 23) (by decide) (fun c4 => ?_) (fun c4 => ?_)
    · replace h := (if_pos c4).symm.trans h
      obtain rfl := Option.some.inj h
      exact dx_wk [true, true, true, false] <| hk
    · replace h := (if_neg c4).symm.trans h
      refine dx_aload_n (pc := 7) hx dX9_passRow_7 rfl ?_
      refine dx_iload_n (pc := 8) hx dX9_passRow_8 rfl ?_
      refine dx_aload_n (pc := 9) hx dX9_passRow_9 rfl ?_
      refine dx_aload_n (pc := 10) hx dX9_passRow_10 rfl ?_
      refine dx_iload_n (pc := 11) hx dX9_passRow_11 rfl ?_
      by_cases g12 : x3 < 0 ∨ 6 ≤ x3.toNatClampNeg
      · cases (if_pos g12).symm.trans h
      replace h := (if_neg g12).symm.trans h
      refine dx_iald (pc := 12) hx dX9_passRow_12 rfl g12 ?_
      obtain ⟨r13, h13, h⟩ := Option.bind_eq_some_iff.mp h
      refine dx_callViw (pc := 13) (As := [.int (σ.1 59 x3.toNatClampNeg)]) (rest := [.int x3, .ref 59]) hx dX9_passRow_13 k_X9_334 rfl rfl rfl rfl (dc_le rfl) (dc_le rfl) (dc_le rfl) (dc_le rfl) rfl (th_X9_pass h13) ?_
      by_cases g16 : x3 < 0 ∨ 6 ≤ x3.toNatClampNeg
      · cases (if_pos g16).symm.trans h
      replace h := (if_neg g16).symm.trans h
      refine dx_iast (pc := 16) hx dX9_passRow_16 rfl g16 ?_
      refine dx_nm (fun s16 e16 => ?_)
      replace h := dc_lt e16 h
      refine dx_iinc (pc := 17) hx dX9_passRow_17 rfl (v := x3 + nI 1) (congrArg (fun z => x3 + z) kc_1) (dc_le rfl) (ls' := [some (.ref 55), some (.ref 59), some (.int x2), some (.int (x3 + nI 1))]) rfl ?_
      refine dx_goto (pc := 20) hx dX9_passRow_20 (tgt := 2) (by decide) ?_
      exact (ih (x3 + nI 1) s16 q h hk)
set_option maxHeartbeats 4000000 in
set_option maxRecDepth 100000 in
theorem th_X9_passRow_59 {σ : dc_HP} {x2 : Int32} {r : dc_HP} (h : fn_X9_passRow σ 59 x2 = some r) : dc_G mX9_passRow [.ref 55, .ref 59, .int x2] σ (dc_qv (fun τ => τ = r)) := by
  intro κ hO
  have hx : dc_Cx κ RX9 cX9_passRow 4 1 22 := hO.1
  show dc_X κ 0 [some (.ref 55), some (.ref 59), some (.int x2), none] [] σ
  unfold fn_X9_passRow at h
  refine dx_iconst (pc := 0) hx dX9_passRow_0 kc_0 ?_
  refine dx_istore_n (pc := 1) hx dX9_passRow_1 (dc_le rfl) (ls' := [some (.ref 55), some (.ref 59), some (.int x2), some (.int (nI 0))]) rfl ?_
  obtain ⟨q2, h2, h⟩ := Option.bind_eq_some_iff.mp h
  refine (tl_X9_passRow_59_L2 hO x2 200 (nI 0) σ q2 h2 ?_)
  obtain rfl := Option.some.inj h
  exact dx_vret hO (pc := 23) dX9_passRow_23 rfl ⟨rfl, rfl⟩
set_option maxHeartbeats 4000000 in
set_option maxRecDepth 100000 in
theorem tl_X9_passRow_60_L2 {κ : dc_KX} {Q : Option Value → dc_HP → Prop} (hO : dc_Ok κ mX9_passRow Q) (x2 : Int32) : ∀ (n : Nat) (x3 : Int32) (σ : dc_HP) (q : dc_HP), fn_X9_passRow_L2 60 x2 n x3 σ = some q → ∀ (hk : dc_X κ 23 [some (.ref 55), some (.ref 60), some (.int x2), none] [] q), dc_X κ 2 [some (.ref 55), some (.ref 60), some (.int x2), some (.int x3)] [] σ := by
  have hx : dc_Cx κ RX9 cX9_passRow 4 1 22 := hO.1
  intro n
  induction n with
  | zero =>
    intro x3 σ q h
    cases h
  | succ n ih =>
    intro x3 σ q h hk
    unfold fn_X9_passRow_L2 at h
    refine dx_iload_n (pc := 2) hx dX9_passRow_2 rfl ?_
    refine dx_iload_n (pc := 3) hx dX9_passRow_3 rfl ?_
    refine dx_icmp_ge (pc := 4) hx dX9_passRow_4 (tgt := 23) (by decide) (fun c4 => ?_) (fun c4 => ?_)
    · replace h := (if_pos c4).symm.trans h
      obtain rfl := Option.some.inj h
      exact dx_wk [true, true, true, false] <| hk
    · replace h := (if_neg c4).symm.trans h
      refine dx_aload_n (pc := 7) hx dX9_passRow_7 rfl ?_
      refine dx_iload_n (pc := 8) hx dX9_passRow_8 rfl ?_
      refine dx_aload_n (pc := 9) hx dX9_passRow_9 rfl ?_
      refine dx_aload_n (pc := 10) hx dX9_passRow_10 rfl ?_
      refine dx_iload_n (pc := 11) hx dX9_passRow_11 rfl ?_
      by_cases g12 : x3 < 0 ∨ 6 ≤ x3.toNatClampNeg
      · cases (if_pos g12).symm.trans h
      replace h := (if_neg g12).symm.trans h
      refine dx_iald (pc := 12) hx dX9_passRow_12 rfl g12 ?_
      obtain ⟨r13, h13, h⟩ := Option.bind_eq_some_iff.mp h
      refine dx_callViw (pc := 13) (As := [.int (σ.1 60 x3.toNatClampNeg)]) (rest := [.int x3, .ref 60]) hx dX9_passRow_13 k_X9_334 rfl rfl rfl rfl (dc_le rfl) (dc_le rfl) (dc_le rfl) (dc_le rfl) rfl (th_X9_pass h13) ?_
      by_cases g16 : x3 < 0 ∨ 6 ≤ x3.toNatClampNeg
      · cases (if_pos g16).symm.trans h
      replace h := (if_neg g16).symm.trans h
      refine dx_iast (pc := 16) hx dX9_passRow_16 rfl g16 ?_
      refine dx_nm (fun s16 e16 => ?_)
      replace h := dc_lt e16 h
      refine dx_iinc (pc := 17) hx dX9_passRow_17 rfl (v := x3 + nI 1) (congrArg (fun z => x3 + z) kc_1) (dc_le rfl) (ls' := [some (.ref 55), some (.ref 60), some (.int x2), some (.int (x3 + nI 1))]) rfl ?_
      refine dx_goto (pc := 20) hx dX9_passRow_20 (tgt := 2) (by decide) ?_
      exact (ih (x3 + nI 1) s16 q h hk)
set_option maxHeartbeats 4000000 in
set_option maxRecDepth 100000 in
theorem th_X9_passRow_60 {σ : dc_HP} {x2 : Int32} {r : dc_HP} (h : fn_X9_passRow σ 60 x2 = some r) : dc_G mX9_passRow [.ref 55, .ref 60, .int x2] σ (dc_qv (fun τ => τ = r)) := by
  intro κ hO
  have hx : dc_Cx κ RX9 cX9_passRow 4 1 22 := hO.1
  show dc_X κ 0 [some (.ref 55), some (.ref 60), some (.int x2), none] [] σ
  unfold fn_X9_passRow at h
  refine dx_iconst (pc := 0) hx dX9_passRow_0 kc_0 ?_
  refine dx_istore_n (pc := 1) hx dX9_passRow_1 (dc_le rfl) (ls' := [some (.ref 55), some (.ref 60), some (.int x2), some (.int (nI 0))]) rfl ?_
  obtain ⟨q2, h2, h⟩ := Option.bind_eq_some_iff.mp h
  refine (tl_X9_passRow_60_L2 hO x2 200 (nI 0) σ q2 h2 ?_)
  obtain rfl := Option.some.inj h
  exact dx_vret hO (pc := 23) dX9_passRow_23 rfl ⟨rfl, rfl⟩
set_option maxHeartbeats 4000000 in
set_option maxRecDepth 100000 in
theorem tl_X9_passRow_61_L2 {κ : dc_KX} {Q : Option Value → dc_HP → Prop} (hO : dc_Ok κ mX9_passRow Q) (x2 : Int32) : ∀ (n : Nat) (x3 : Int32) (σ : dc_HP) (q : dc_HP), fn_X9_passRow_L2 61 x2 n x3 σ = some q → ∀ (hk : dc_X κ 23 [some (.ref 55), some (.ref 61), some (.int x2), none] [] q), dc_X κ 2 [some (.ref 55), some (.ref 61), some (.int x2), some (.int x3)] [] σ := by
  have hx : dc_Cx κ RX9 cX9_passRow 4 1 22 := hO.1
  intro n
  induction n with
  | zero =>
    intro x3 σ q h
    cases h
  | succ n ih =>
    intro x3 σ q h hk
    unfold fn_X9_passRow_L2 at h
    refine dx_iload_n (pc := 2) hx dX9_passRow_2 rfl ?_
    refine dx_iload_n (pc := 3) hx dX9_passRow_3 rfl ?_
    refine dx_icmp_ge (pc := 4) hx dX9_passRow_4 (tgt := 23) (by decide) (fun c4 => ?_) (fun c4 => ?_)
    · replace h := (if_pos c4).symm.trans h
      obtain rfl := Option.some.inj h
      exact dx_wk [true, true, true, false] <| hk
    · replace h := (if_neg c4).symm.trans h
      refine dx_aload_n (pc := 7) hx dX9_passRow_7 rfl ?_
      refine dx_iload_n (pc := 8) hx dX9_passRow_8 rfl ?_
      refine dx_aload_n (pc := 9) hx dX9_passRow_9 rfl ?_
      refine dx_aload_n (pc := 10) hx dX9_passRow_10 rfl ?_
      refine dx_iload_n (pc := 11) hx dX9_passRow_11 rfl ?_
      by_cases g12 : x3 < 0 ∨ 8 ≤ x3.toNatClampNeg
      · cases (if_pos g12).symm.trans h
      replace h := (if_neg g12).symm.trans h
      refine dx_iald (pc := 12) hx dX9_passRow_12 rfl g12 ?_
      obtain ⟨r13, h13, h⟩ := Option.bind_eq_some_iff.mp h
      refine dx_callViw (pc := 13) (As := [.int (σ.1 61 x3.toNatClampNeg)]) (rest := [.int x3, .ref 61]) hx dX9_passRow_13 k_X9_334 rfl rfl rfl rfl (dc_le rfl) (dc_le rfl) (dc_le rfl) (dc_le rfl) rfl (th_X9_pass h13) ?_
      by_cases g16 : x3 < 0 ∨ 8 ≤ x3.toNatClampNeg
      · cases (if_pos g16).symm.trans h
      replace h := (if_neg g16).symm.trans h
      refine dx_iast (pc := 16) hx dX9_passRow_16 rfl g16 ?_
      refine dx_nm (fun s16 e16 => ?_)
      replace h := dc_lt e16 h
      refine dx_iinc (pc := 17) hx dX9_passRow_17 rfl (v := x3 + nI 1) (congrArg (fun z => x3 + z) kc_1) (dc_le rfl) (ls' := [some (.ref 55), some (.ref 61), some (.int x2), some (.int (x3 + nI 1))]) rfl ?_
      refine dx_goto (pc := 20) hx dX9_passRow_20 (tgt := 2) (by decide) ?_
      exact (ih (x3 + nI 1) s16 q h hk)
set_option maxHeartbeats 4000000 in
set_option maxRecDepth 100000 in
theorem th_X9_passRow_61 {σ : dc_HP} {x2 : Int32} {r : dc_HP} (h : fn_X9_passRow σ 61 x2 = some r) : dc_G mX9_passRow [.ref 55, .ref 61, .int x2] σ (dc_qv (fun τ => τ = r)) := by
  intro κ hO
  have hx : dc_Cx κ RX9 cX9_passRow 4 1 22 := hO.1
  show dc_X κ 0 [some (.ref 55), some (.ref 61), some (.int x2), none] [] σ
  unfold fn_X9_passRow at h
  refine dx_iconst (pc := 0) hx dX9_passRow_0 kc_0 ?_
  refine dx_istore_n (pc := 1) hx dX9_passRow_1 (dc_le rfl) (ls' := [some (.ref 55), some (.ref 61), some (.int x2), some (.int (nI 0))]) rfl ?_
  obtain ⟨q2, h2, h⟩ := Option.bind_eq_some_iff.mp h
  refine (tl_X9_passRow_61_L2 hO x2 200 (nI 0) σ q2 h2 ?_)
  obtain rfl := Option.some.inj h
  exact dx_vret hO (pc := 23) dX9_passRow_23 rfl ⟨rfl, rfl⟩
set_option maxHeartbeats 4000000 in
set_option maxRecDepth 100000 in
theorem tl_X9_passRow_62_L2 {κ : dc_KX} {Q : Option Value → dc_HP → Prop} (hO : dc_Ok κ mX9_passRow Q) (x2 : Int32) : ∀ (n : Nat) (x3 : Int32) (σ : dc_HP) (q : dc_HP), fn_X9_passRow_L2 62 x2 n x3 σ = some q → ∀ (hk : dc_X κ 23 [some (.ref 55), some (.ref 62), some (.int x2), none] [] q), dc_X κ 2 [some (.ref 55), some (.ref 62), some (.int x2), some (.int x3)] [] σ := by
  have hx : dc_Cx κ RX9 cX9_passRow 4 1 22 := hO.1
  intro n
  induction n with
  | zero =>
    intro x3 σ q h
    cases h
  | succ n ih =>
    intro x3 σ q h hk
    unfold fn_X9_passRow_L2 at h
    refine dx_iload_n (pc := 2) hx dX9_passRow_2 rfl ?_
    refine dx_iload_n (pc := 3) hx dX9_passRow_3 rfl ?_
    refine dx_icmp_ge (pc := 4) hx dX9_passRow_4 (tgt := 23) (by decide) (fun c4 => ?_) (fun c4 => ?_)
    · replace h := (if_pos c4).symm.trans h
      obtain rfl := Option.some.inj h
      exact dx_wk [true, true, true, false] <| hk
    · replace h := (if_neg c4).symm.trans h
      refine dx_aload_n (pc := 7) hx dX9_passRow_7 rfl ?_
      refine dx_iload_n (pc := 8) hx dX9_passRow_8 rfl ?_
      refine dx_aload_n (pc := 9) hx dX9_passRow_9 rfl ?_
      refine dx_aload_n (pc := 10) hx dX9_passRow_10 rfl ?_
      refine dx_iload_n (pc := 11) hx dX9_passRow_11 rfl ?_
      by_cases g12 : x3 < 0 ∨ 8 ≤ x3.toNatClampNeg
      · cases (if_pos g12).symm.trans h
      replace h := (if_neg g12).symm.trans h
      refine dx_iald (pc := 12) hx dX9_passRow_12 rfl g12 ?_
      obtain ⟨r13, h13, h⟩ := Option.bind_eq_some_iff.mp h
      refine dx_callViw (pc := 13) (As := [.int (σ.1 62 x3.toNatClampNeg)]) (rest := [.int x3, .ref 62]) hx dX9_passRow_13 k_X9_334 rfl rfl rfl rfl (dc_le rfl) (dc_le rfl) (dc_le rfl) (dc_le rfl) rfl (th_X9_pass h13) ?_
      by_cases g16 : x3 < 0 ∨ 8 ≤ x3.toNatClampNeg
      · cases (if_pos g16).symm.trans h
      replace h := (if_neg g16).symm.trans h
      refine dx_iast (pc := 16) hx dX9_passRow_16 rfl g16 ?_
      refine dx_nm (fun s16 e16 => ?_)
      replace h := dc_lt e16 h
      refine dx_iinc (pc := 17) hx dX9_passRow_17 rfl (v := x3 + nI 1) (congrArg (fun z => x3 + z) kc_1) (dc_le rfl) (ls' := [some (.ref 55), some (.ref 62), some (.int x2), some (.int (x3 + nI 1))]) rfl ?_
      refine dx_goto (pc := 20) hx dX9_passRow_20 (tgt := 2) (by decide) ?_
      exact (ih (x3 + nI 1) s16 q h hk)
set_option maxHeartbeats 4000000 in
set_option maxRecDepth 100000 in
theorem th_X9_passRow_62 {σ : dc_HP} {x2 : Int32} {r : dc_HP} (h : fn_X9_passRow σ 62 x2 = some r) : dc_G mX9_passRow [.ref 55, .ref 62, .int x2] σ (dc_qv (fun τ => τ = r)) := by
  intro κ hO
  have hx : dc_Cx κ RX9 cX9_passRow 4 1 22 := hO.1
  show dc_X κ 0 [some (.ref 55), some (.ref 62), some (.int x2), none] [] σ
  unfold fn_X9_passRow at h
  refine dx_iconst (pc := 0) hx dX9_passRow_0 kc_0 ?_
  refine dx_istore_n (pc := 1) hx dX9_passRow_1 (dc_le rfl) (ls' := [some (.ref 55), some (.ref 62), some (.int x2), some (.int (nI 0))]) rfl ?_
  obtain ⟨q2, h2, h⟩ := Option.bind_eq_some_iff.mp h
  refine (tl_X9_passRow_62_L2 hO x2 200 (nI 0) σ q2 h2 ?_)
  obtain rfl := Option.some.inj h
  exact dx_vret hO (pc := 23) dX9_passRow_23 rfl ⟨rfl, rfl⟩
set_option maxHeartbeats 4000000 in
set_option maxRecDepth 100000 in
theorem th_X9_passAll {σ : dc_HP} {r : dc_HP} (h : fn_X9_passAll σ = some r) : dc_G mX9_passAll [.ref 55] σ (dc_qv (fun τ => τ = r)) := by
  intro κ hO
  have hx : dc_Cx κ RX9 cX9_passAll 1 2 45 := hO.1
  show dc_X κ 0 [some (.ref 55)] [] σ
  unfold fn_X9_passAll at h
  refine dx_aload_n (pc := 0) hx dX9_passAll_0 rfl ?_
  refine dx_aload_n (pc := 1) hx dX9_passAll_1 rfl ?_
  refine dx_aload_n (pc := 2) hx dX9_passAll_2 rfl ?_
  refine dx_getI (pc := 3) hx dX9_passAll_3 f_X9_81 rfl rfl ?_
  obtain ⟨r6, h6, h⟩ := Option.bind_eq_some_iff.mp h
  refine dx_callViw (pc := 6) (As := [.int (σ.1 55 0)]) (rest := [.ref 55]) hx dX9_passAll_6 k_X9_334 rfl rfl rfl rfl (dc_le rfl) (dc_le rfl) (dc_le rfl) (dc_le rfl) rfl (th_X9_pass h6) ?_
  refine dx_putI (pc := 9) hx dX9_passAll_9 f_X9_81 rfl rfl tyX9_ok rfl (Or.inl ⟨rfl, rfl⟩) ?_
  refine dx_nm (fun s9 e9 => ?_)
  replace h := dc_lt e9 h
  refine dx_aload_n (pc := 12) hx dX9_passAll_12 rfl ?_
  refine dx_aload_n (pc := 13) hx dX9_passAll_13 rfl ?_
  refine dx_aload_n (pc := 14) hx dX9_passAll_14 rfl ?_
  refine dx_getI (pc := 15) hx dX9_passAll_15 f_X9_89 rfl rfl ?_
  obtain ⟨r18, h18, h⟩ := Option.bind_eq_some_iff.mp h
  refine dx_callViw (pc := 18) (As := [.int (s9.1 55 1)]) (rest := [.ref 55]) hx dX9_passAll_18 k_X9_334 rfl rfl rfl rfl (dc_le rfl) (dc_le rfl) (dc_le rfl) (dc_le rfl) rfl (th_X9_pass h18) ?_
  refine dx_putI (pc := 21) hx dX9_passAll_21 f_X9_89 rfl rfl tyX9_ok rfl (Or.inl ⟨rfl, rfl⟩) ?_
  refine dx_nm (fun s21 e21 => ?_)
  replace h := dc_lt e21 h
  refine dx_aload_n (pc := 24) hx dX9_passAll_24 rfl ?_
  refine dx_aload_n (pc := 25) hx dX9_passAll_25 rfl ?_
  refine dx_aload_n (pc := 26) hx dX9_passAll_26 rfl ?_
  refine dx_getI (pc := 27) hx dX9_passAll_27 f_X9_92 rfl rfl ?_
  obtain ⟨r30, h30, h⟩ := Option.bind_eq_some_iff.mp h
  refine dx_callViw (pc := 30) (As := [.int (s21.1 55 2)]) (rest := [.ref 55]) hx dX9_passAll_30 k_X9_334 rfl rfl rfl rfl (dc_le rfl) (dc_le rfl) (dc_le rfl) (dc_le rfl) rfl (th_X9_pass h30) ?_
  refine dx_putI (pc := 33) hx dX9_passAll_33 f_X9_92 rfl rfl tyX9_ok rfl (Or.inl ⟨rfl, rfl⟩) ?_
  refine dx_nm (fun s33 e33 => ?_)
  replace h := dc_lt e33 h
  refine dx_aload_n (pc := 36) hx dX9_passAll_36 rfl ?_
  refine dx_aload_n (pc := 37) hx dX9_passAll_37 rfl ?_
  refine dx_aload_n (pc := 38) hx dX9_passAll_38 rfl ?_
  refine dx_getI (pc := 39) hx dX9_passAll_39 f_X9_154 rfl rfl ?_
  obtain ⟨r42, h42, h⟩ := Option.bind_eq_some_iff.mp h
  refine dx_callViw (pc := 42) (As := [.int (s33.1 55 3)]) (rest := [.ref 55]) hx dX9_passAll_42 k_X9_334 rfl rfl rfl rfl (dc_le rfl) (dc_le rfl) (dc_le rfl) (dc_le rfl) rfl (th_X9_pass h42) ?_
  refine dx_putI (pc := 45) hx dX9_passAll_45 f_X9_154 rfl rfl tyX9_ok rfl (Or.inl ⟨rfl, rfl⟩) ?_
  refine dx_nm (fun s45 e45 => ?_)
  replace h := dc_lt e45 h
  refine dx_aload_n (pc := 48) hx dX9_passAll_48 rfl ?_
  refine dx_aload_n (pc := 49) hx dX9_passAll_49 rfl ?_
  refine dx_aload_n (pc := 50) hx dX9_passAll_50 rfl ?_
  refine dx_getI (pc := 51) hx dX9_passAll_51 f_X9_282 rfl rfl ?_
  obtain ⟨r54, h54, h⟩ := Option.bind_eq_some_iff.mp h
  refine dx_callViw (pc := 54) (As := [.int (s45.1 55 11)]) (rest := [.ref 55]) hx dX9_passAll_54 k_X9_334 rfl rfl rfl rfl (dc_le rfl) (dc_le rfl) (dc_le rfl) (dc_le rfl) rfl (th_X9_pass h54) ?_
  refine dx_putI (pc := 57) hx dX9_passAll_57 f_X9_282 rfl rfl tyX9_ok rfl (Or.inl ⟨rfl, rfl⟩) ?_
  refine dx_nm (fun s57 e57 => ?_)
  replace h := dc_lt e57 h
  refine dx_aload_n (pc := 60) hx dX9_passAll_60 rfl ?_
  refine dx_aload_n (pc := 61) hx dX9_passAll_61 rfl ?_
  refine dx_getR (r := 56) (pc := 62) hx dX9_passAll_62 f_X9_7 rfl rfl ?_
  refine dx_bipush (pc := 65) hx dX9_passAll_65 kb_8 ?_
  obtain ⟨r67, h67, h⟩ := Option.bind_eq_some_iff.mp h
  refine dx_callVvw (pc := 67) (As := [.ref 56, .int (nI 8)]) (rest := []) hx dX9_passAll_67 k_X9_337 rfl rfl rfl rfl (dc_le rfl) (dc_le rfl) (dc_le rfl) (dc_le rfl) rfl (th_X9_passRow_56 h67) ?_
  refine dx_aload_n (pc := 70) hx dX9_passAll_70 rfl ?_
  refine dx_aload_n (pc := 71) hx dX9_passAll_71 rfl ?_
  refine dx_getR (r := 57) (pc := 72) hx dX9_passAll_72 f_X9_13 rfl rfl ?_
  refine dx_bipush (pc := 75) hx dX9_passAll_75 kb_8 ?_
  obtain ⟨r77, h77, h⟩ := Option.bind_eq_some_iff.mp h
  refine dx_callVvw (pc := 77) (As := [.ref 57, .int (nI 8)]) (rest := []) hx dX9_passAll_77 k_X9_337 rfl rfl rfl rfl (dc_le rfl) (dc_le rfl) (dc_le rfl) (dc_le rfl) rfl (th_X9_passRow_57 h77) ?_
  refine dx_aload_n (pc := 80) hx dX9_passAll_80 rfl ?_
  refine dx_aload_n (pc := 81) hx dX9_passAll_81 rfl ?_
  refine dx_getR (r := 58) (pc := 82) hx dX9_passAll_82 f_X9_16 rfl rfl ?_
  refine dx_bipush (pc := 85) hx dX9_passAll_85 kb_24 ?_
  obtain ⟨r87, h87, h⟩ := Option.bind_eq_some_iff.mp h
  refine dx_callVvw (pc := 87) (As := [.ref 58, .int (nI 24)]) (rest := []) hx dX9_passAll_87 k_X9_337 rfl rfl rfl rfl (dc_le rfl) (dc_le rfl) (dc_le rfl) (dc_le rfl) rfl (th_X9_passRow_58 h87) ?_
  refine dx_aload_n (pc := 90) hx dX9_passAll_90 rfl ?_
  refine dx_aload_n (pc := 91) hx dX9_passAll_91 rfl ?_
  refine dx_getR (r := 59) (pc := 92) hx dX9_passAll_92 f_X9_19 rfl rfl ?_
  refine dx_bipush (pc := 95) hx dX9_passAll_95 kb_6 ?_
  obtain ⟨r97, h97, h⟩ := Option.bind_eq_some_iff.mp h
  refine dx_callVvw (pc := 97) (As := [.ref 59, .int (nI 6)]) (rest := []) hx dX9_passAll_97 k_X9_337 rfl rfl rfl rfl (dc_le rfl) (dc_le rfl) (dc_le rfl) (dc_le rfl) rfl (th_X9_passRow_59 h97) ?_
  refine dx_aload_n (pc := 100) hx dX9_passAll_100 rfl ?_
  refine dx_aload_n (pc := 101) hx dX9_passAll_101 rfl ?_
  refine dx_getR (r := 60) (pc := 102) hx dX9_passAll_102 f_X9_22 rfl rfl ?_
  refine dx_bipush (pc := 105) hx dX9_passAll_105 kb_6 ?_
  obtain ⟨r107, h107, h⟩ := Option.bind_eq_some_iff.mp h
  refine dx_callVvw (pc := 107) (As := [.ref 60, .int (nI 6)]) (rest := []) hx dX9_passAll_107 k_X9_337 rfl rfl rfl rfl (dc_le rfl) (dc_le rfl) (dc_le rfl) (dc_le rfl) rfl (th_X9_passRow_60 h107) ?_
  refine dx_aload_n (pc := 110) hx dX9_passAll_110 rfl ?_
  refine dx_aload_n (pc := 111) hx dX9_passAll_111 rfl ?_
  refine dx_getR (r := 61) (pc := 112) hx dX9_passAll_112 f_X9_25 rfl rfl ?_
  refine dx_bipush (pc := 115) hx dX9_passAll_115 kb_8 ?_
  obtain ⟨r117, h117, h⟩ := Option.bind_eq_some_iff.mp h
  refine dx_callVvw (pc := 117) (As := [.ref 61, .int (nI 8)]) (rest := []) hx dX9_passAll_117 k_X9_337 rfl rfl rfl rfl (dc_le rfl) (dc_le rfl) (dc_le rfl) (dc_le rfl) rfl (th_X9_passRow_61 h117) ?_
  refine dx_aload_n (pc := 120) hx dX9_passAll_120 rfl ?_
  refine dx_aload_n (pc := 121) hx dX9_passAll_121 rfl ?_
  refine dx_getR (r := 62) (pc := 122) hx dX9_passAll_122 f_X9_28 rfl rfl ?_
  refine dx_bipush (pc := 125) hx dX9_passAll_125 kb_8 ?_
  obtain ⟨r127, h127, h⟩ := Option.bind_eq_some_iff.mp h
  refine dx_callVvw (pc := 127) (As := [.ref 62, .int (nI 8)]) (rest := []) hx dX9_passAll_127 k_X9_337 rfl rfl rfl rfl (dc_le rfl) (dc_le rfl) (dc_le rfl) (dc_le rfl) rfl (th_X9_passRow_62 h127) ?_
  obtain rfl := Option.some.inj h
  exact dx_vret hO (pc := 130) dX9_passAll_130 rfl ⟨rfl, rfl⟩
set_option maxHeartbeats 4000000 in
set_option maxRecDepth 100000 in
theorem th_X9_image {σ : dc_HP} {x1 : Int32} {r : Int32 × dc_HP} (h : fn_X9_image σ x1 = some r) : dc_G mX9_image [.ref 55, .int x1] σ (dc_qi (fun x τ => x = r.1 ∧ τ = r.2)) := by
  intro κ hO
  have hx : dc_Cx κ RX9 cX9_image 2 3 65 := hO.1
  show dc_X κ 0 [some (.ref 55), some (.int x1)] [] σ
  unfold fn_X9_image at h
  refine dx_iload_n (pc := 0) hx dX9_image_0 rfl ?_
  refine dx_i2l (pc := 1) hx dX9_image_1 ?_
  refine dx_lconst (pc := 2) hx dX9_image_2 (v := (0 : Int64)) (by decide) ?_
  refine dx_lconst (pc := 3) hx dX9_image_3 (v := (1 : Int64)) (by decide) ?_
  obtain ⟨r4, h4, h⟩ := Option.bind_eq_some_iff.mp h
  refine dx_callSir (pc := 4) (As := [.long x1.toInt64, .long ((0 : Int64)), .long ((1 : Int64))]) (rest := []) hx dX9_image_4 k_X9_77 rfl (dc_le rfl) (dc_le rfl) (dc_le rfl) (dc_le rfl) rfl (th_X9_in h4) ?_
  refine dx_if_ne (pc := 7) hx dX9_image_7 (tgt := 13) (by decide) (fun c7 => ?_) (fun c7 => ?_)
  · replace h := (if_neg c7).symm.trans h
    refine dx_aload_n (pc := 13) hx dX9_image_13 rfl ?_
    refine dx_bipush (pc := 14) hx dX9_image_14 kb_90 ?_
    refine dx_iload_n (pc := 16) hx dX9_image_16 rfl ?_
    refine dx_imul (pc := 17) hx dX9_image_17 ?_
    refine dx_putI (pc := 18) hx dX9_image_18 f_X9_331 rfl rfl tyX9_ok rfl (Or.inl ⟨rfl, rfl⟩) ?_
    refine dx_nm (fun s18 e18 => ?_)
    replace h := dc_lt e18 h
    refine dx_aload_n (pc := 21) hx dX9_image_21 rfl ?_
    refine dx_iconst (pc := 22) hx dX9_image_22 kc_1 ?_
    refine dx_putI (pc := 23) hx dX9_image_23 f_X9_327 rfl rfl tyX9_ok rfl (Or.inr ⟨rfl, rfl, by decide⟩) ?_
    refine dx_nm (fun s23 e23 => ?_)
    replace h := dc_lt e23 h
    refine dx_aload_n (pc := 26) hx dX9_image_26 rfl ?_
    obtain ⟨r27, h27, h⟩ := Option.bind_eq_some_iff.mp h
    refine dx_callVvw (pc := 27) (As := []) (rest := []) hx dX9_image_27 k_X9_341 rfl rfl rfl rfl (dc_le rfl) (dc_le rfl) (dc_le rfl) (dc_le rfl) rfl (th_X9_passAll h27) ?_
    refine dx_aload_n (pc := 30) hx dX9_image_30 rfl ?_
    refine dx_getR (r := 76) (pc := 31) hx dX9_image_31 f_X9_71 rfl rfl ?_
    refine dx_iload_n (pc := 34) hx dX9_image_34 rfl ?_
    refine dx_iconst (pc := 35) hx dX9_image_35 kc_1 ?_
    by_cases g36 : x1 < 0 ∨ 2 ≤ x1.toNatClampNeg
    · cases (if_pos g36).symm.trans h
    replace h := (if_neg g36).symm.trans h
    refine dx_zast (pc := 36) hx dX9_image_36 rfl g36 (by decide) ?_
    refine dx_nm (fun s36 e36 => ?_)
    replace h := dc_lt e36 h
    refine dx_iconst (pc := 37) hx dX9_image_37 kc_1 ?_
    obtain rfl := Option.some.inj h
    exact dx_iret hO (pc := 38) dX9_image_38 rfl ⟨_, rfl, rfl, rfl⟩
  · replace h := (if_pos c7).symm.trans h
    refine dx_bipush (pc := 10) hx dX9_image_10 kb_m2 ?_
    obtain rfl := Option.some.inj h
    exact dx_iret hO (pc := 12) dX9_image_12 rfl ⟨_, rfl, rfl, rfl⟩
set_option maxHeartbeats 4000000 in
set_option maxRecDepth 100000 in
theorem th_X9_restore {σ : dc_HP} {x1 : Int32} {r : Int32 × dc_HP} (h : fn_X9_restore σ x1 = some r) : dc_G mX9_restore [.ref 55, .int x1] σ (dc_qi (fun x τ => x = r.1 ∧ τ = r.2)) := by
  intro κ hO
  have hx : dc_Cx κ RX9 cX9_restore 2 3 65 := hO.1
  show dc_X κ 0 [some (.ref 55), some (.int x1)] [] σ
  unfold fn_X9_restore at h
  refine dx_iload_n (pc := 0) hx dX9_restore_0 rfl ?_
  refine dx_i2l (pc := 1) hx dX9_restore_1 ?_
  refine dx_lconst (pc := 2) hx dX9_restore_2 (v := (0 : Int64)) (by decide) ?_
  refine dx_lconst (pc := 3) hx dX9_restore_3 (v := (1 : Int64)) (by decide) ?_
  obtain ⟨r4, h4, h⟩ := Option.bind_eq_some_iff.mp h
  refine dx_callSir (pc := 4) (As := [.long x1.toInt64, .long ((0 : Int64)), .long ((1 : Int64))]) (rest := []) hx dX9_restore_4 k_X9_77 rfl (dc_le rfl) (dc_le rfl) (dc_le rfl) (dc_le rfl) rfl (th_X9_in h4) ?_
  refine dx_if_ne (pc := 7) hx dX9_restore_7 (tgt := 13) (by decide) (fun c7 => ?_) (fun c7 => ?_)
  · replace h := (if_neg c7).symm.trans h
    refine dx_aload_n (pc := 13) hx dX9_restore_13 rfl ?_
    refine dx_getR (r := 76) (pc := 14) hx dX9_restore_14 f_X9_71 rfl rfl ?_
    refine dx_iload_n (pc := 17) hx dX9_restore_17 rfl ?_
    by_cases g18 : x1 < 0 ∨ 2 ≤ x1.toNatClampNeg
    · cases (if_pos g18).symm.trans h
    replace h := (if_neg g18).symm.trans h
    refine dx_zald (pc := 18) hx dX9_restore_18 rfl g18 ?_
    refine dx_if_ne (pc := 19) hx dX9_restore_19 (tgt := 25) (by decide) (fun c19 => ?_) (fun c19 => ?_)
    · replace h := (if_neg c19).symm.trans h
      refine dx_aload_n (pc := 25) hx dX9_restore_25 rfl ?_
      refine dx_bipush (pc := 26) hx dX9_restore_26 kb_90 ?_
      refine dx_iload_n (pc := 28) hx dX9_restore_28 rfl ?_
      refine dx_imul (pc := 29) hx dX9_restore_29 ?_
      refine dx_putI (pc := 30) hx dX9_restore_30 f_X9_331 rfl rfl tyX9_ok rfl (Or.inl ⟨rfl, rfl⟩) ?_
      refine dx_nm (fun s30 e30 => ?_)
      replace h := dc_lt e30 h
      refine dx_aload_n (pc := 33) hx dX9_restore_33 rfl ?_
      refine dx_iconst (pc := 34) hx dX9_restore_34 kc_0 ?_
      refine dx_putI (pc := 35) hx dX9_restore_35 f_X9_327 rfl rfl tyX9_ok rfl (Or.inr ⟨rfl, rfl, by decide⟩) ?_
      refine dx_nm (fun s35 e35 => ?_)
      replace h := dc_lt e35 h
      refine dx_aload_n (pc := 38) hx dX9_restore_38 rfl ?_
      obtain ⟨r39, h39, h⟩ := Option.bind_eq_some_iff.mp h
      refine dx_callVvw (pc := 39) (As := []) (rest := []) hx dX9_restore_39 k_X9_341 rfl rfl rfl rfl (dc_le rfl) (dc_le rfl) (dc_le rfl) (dc_le rfl) rfl (th_X9_passAll h39) ?_
      refine dx_iconst (pc := 42) hx dX9_restore_42 kc_1 ?_
      obtain rfl := Option.some.inj h
      exact dx_iret hO (pc := 43) dX9_restore_43 rfl ⟨_, rfl, rfl, rfl⟩
    · replace h := (if_pos c19).symm.trans h
      refine dx_bipush (pc := 22) hx dX9_restore_22 kb_m3 ?_
      obtain rfl := Option.some.inj h
      exact dx_iret hO (pc := 24) dX9_restore_24 rfl ⟨_, rfl, rfl, rfl⟩
  · replace h := (if_pos c7).symm.trans h
    refine dx_bipush (pc := 10) hx dX9_restore_10 kb_m2 ?_
    obtain rfl := Option.some.inj h
    exact dx_iret hO (pc := 12) dX9_restore_12 rfl ⟨_, rfl, rfl, rfl⟩
set_option maxHeartbeats 4000000 in
set_option maxRecDepth 100000 in
theorem th_X9_toldOfSinger {σ : dc_HP} {x1 : Int32} {x2 : Int32} {r : Int32} (h : fn_X9_toldOfSinger σ x1 x2 = some r) : dc_G mX9_toldOfSinger [.ref 55, .int x1, .int x2] σ (dc_qi (fun x τ => x = r ∧ τ = σ)) := by
  intro κ hO
  have hx : dc_Cx κ RX9 cX9_toldOfSinger 3 2 46 := hO.1
  show dc_X κ 0 [some (.ref 55), some (.int x1), some (.int x2)] [] σ
  unfold fn_X9_toldOfSinger at h
  refine dx_aload_n (pc := 0) hx dX9_toldOfSinger_0 rfl ?_
  refine dx_iload_n (pc := 1) hx dX9_toldOfSinger_1 rfl ?_
  obtain ⟨r2, h2, h⟩ := Option.bind_eq_some_iff.mp h
  refine dx_callVir (pc := 2) (As := [.int x1]) (rest := []) hx dX9_toldOfSinger_2 k_X9_99 rfl rfl rfl rfl (dc_le rfl) (dc_le rfl) (dc_le rfl) (dc_le rfl) rfl (th_X9_isSinger h2) ?_
  refine dx_if_ne (pc := 5) hx dX9_toldOfSinger_5 (tgt := 11) (by decide) (fun c5 => ?_) (fun c5 => ?_)
  · replace h := (if_neg c5).symm.trans h
    refine dx_iload_n (pc := 11) hx dX9_toldOfSinger_11 rfl ?_
    refine dx_if_ne (pc := 12) hx dX9_toldOfSinger_12 (tgt := 24) (by decide) (fun c12 => ?_) (fun c12 => ?_)
    · replace h := (if_neg c12).symm.trans h
      refine dx_iload_n (pc := 24) hx dX9_toldOfSinger_24 rfl ?_
      refine dx_iconst (pc := 25) hx dX9_toldOfSinger_25 kc_1 ?_
      refine dx_icmp_ne (pc := 26) hx dX9_toldOfSinger_26 (tgt := 38) (by decide) (fun c26 => ?_) (fun c26 => ?_)
      · replace h := (if_neg c26).symm.trans h
        refine dx_iload_n (pc := 38) hx dX9_toldOfSinger_38 rfl ?_
        refine dx_iconst (pc := 39) hx dX9_toldOfSinger_39 kc_2 ?_
        refine dx_icmp_ne (pc := 40) hx dX9_toldOfSinger_40 (tgt := 54) (by decide) (fun c40 => ?_) (fun c40 => ?_)
        · replace h := (if_neg c40).symm.trans h
          refine dx_iload_n (pc := 54) hx dX9_toldOfSinger_54 rfl ?_
          refine dx_iconst (pc := 55) hx dX9_toldOfSinger_55 kc_3 ?_
          refine dx_icmp_ne (pc := 56) hx dX9_toldOfSinger_56 (tgt := 70) (by decide) (fun c56 => ?_) (fun c56 => ?_)
          · replace h := (if_neg c56).symm.trans h
            refine dx_bipush (pc := 70) hx dX9_toldOfSinger_70 kb_m2 ?_
            obtain rfl := Option.some.inj h
            exact dx_iret hO (pc := 72) dX9_toldOfSinger_72 rfl ⟨_, rfl, rfl, rfl⟩
          · replace h := (if_pos c56).symm.trans h
            refine dx_aload_n (pc := 59) hx dX9_toldOfSinger_59 rfl ?_
            refine dx_getI (pc := 60) hx dX9_toldOfSinger_60 f_X9_92 rfl rfl ?_
            refine dx_iload_n (pc := 63) hx dX9_toldOfSinger_63 rfl ?_
            refine dx_ishr (pc := 64) hx dX9_toldOfSinger_64 ?_
            refine dx_iconst (pc := 65) hx dX9_toldOfSinger_65 kc_1 ?_
            refine dx_iand (pc := 66) hx dX9_toldOfSinger_66 ?_
            refine dx_goto (pc := 67) hx dX9_toldOfSinger_67 (tgt := 72) (by decide) ?_
            obtain rfl := Option.some.inj h
            exact dx_iret hO (pc := 72) dX9_toldOfSinger_72 rfl ⟨_, rfl, rfl, rfl⟩
        · replace h := (if_pos c40).symm.trans h
          refine dx_aload_n (pc := 43) hx dX9_toldOfSinger_43 rfl ?_
          refine dx_getI (pc := 44) hx dX9_toldOfSinger_44 f_X9_89 rfl rfl ?_
          refine dx_iload_n (pc := 47) hx dX9_toldOfSinger_47 rfl ?_
          refine dx_ishr (pc := 48) hx dX9_toldOfSinger_48 ?_
          refine dx_iconst (pc := 49) hx dX9_toldOfSinger_49 kc_1 ?_
          refine dx_iand (pc := 50) hx dX9_toldOfSinger_50 ?_
          refine dx_goto (pc := 51) hx dX9_toldOfSinger_51 (tgt := 72) (by decide) ?_
          obtain rfl := Option.some.inj h
          exact dx_iret hO (pc := 72) dX9_toldOfSinger_72 rfl ⟨_, rfl, rfl, rfl⟩
      · replace h := (if_pos c26).symm.trans h
        refine dx_aload_n (pc := 29) hx dX9_toldOfSinger_29 rfl ?_
        refine dx_getR (r := 57) (pc := 30) hx dX9_toldOfSinger_30 f_X9_13 rfl rfl ?_
        refine dx_iload_n (pc := 33) hx dX9_toldOfSinger_33 rfl ?_
        by_cases g34 : x1 < 0 ∨ 8 ≤ x1.toNatClampNeg
        · cases (if_pos g34).symm.trans h
        replace h := (if_neg g34).symm.trans h
        refine dx_iald (pc := 34) hx dX9_toldOfSinger_34 rfl g34 ?_
        refine dx_goto (pc := 35) hx dX9_toldOfSinger_35 (tgt := 72) (by decide) ?_
        obtain rfl := Option.some.inj h
        exact dx_iret hO (pc := 72) dX9_toldOfSinger_72 rfl ⟨_, rfl, rfl, rfl⟩
    · replace h := (if_pos c12).symm.trans h
      refine dx_aload_n (pc := 15) hx dX9_toldOfSinger_15 rfl ?_
      refine dx_getR (r := 56) (pc := 16) hx dX9_toldOfSinger_16 f_X9_7 rfl rfl ?_
      refine dx_iload_n (pc := 19) hx dX9_toldOfSinger_19 rfl ?_
      by_cases g20 : x1 < 0 ∨ 8 ≤ x1.toNatClampNeg
      · cases (if_pos g20).symm.trans h
      replace h := (if_neg g20).symm.trans h
      refine dx_iald (pc := 20) hx dX9_toldOfSinger_20 rfl g20 ?_
      refine dx_goto (pc := 21) hx dX9_toldOfSinger_21 (tgt := 72) (by decide) ?_
      obtain rfl := Option.some.inj h
      exact dx_iret hO (pc := 72) dX9_toldOfSinger_72 rfl ⟨_, rfl, rfl, rfl⟩
  · replace h := (if_pos c5).symm.trans h
    refine dx_bipush (pc := 8) hx dX9_toldOfSinger_8 kb_m2 ?_
    obtain rfl := Option.some.inj h
    exact dx_iret hO (pc := 10) dX9_toldOfSinger_10 rfl ⟨_, rfl, rfl, rfl⟩
set_option maxHeartbeats 4000000 in
set_option maxRecDepth 100000 in
theorem th_X9_toldOfPiece {σ : dc_HP} {x1 : Int32} {x2 : Int32} {r : Int32} (h : fn_X9_toldOfPiece σ x1 x2 = some r) : dc_G mX9_toldOfPiece [.ref 55, .int x1, .int x2] σ (dc_qi (fun x τ => x = r ∧ τ = σ)) := by
  intro κ hO
  have hx : dc_Cx κ RX9 cX9_toldOfPiece 3 0 0 := hO.1
  show dc_X κ 0 [some (.ref 55), some (.int x1), some (.int x2)] [] σ
  unfold fn_X9_toldOfPiece at h
  refine dx_iload_n (pc := 0) hx dX9_toldOfPiece_0 rfl ?_
  refine dx_iconst (pc := 1) hx dX9_toldOfPiece_1 kc_4 ?_
  refine dx_icmp_ge (pc := 2) hx dX9_toldOfPiece_2 (tgt := 18) (by decide) (fun c2 => ?_) (fun c2 => ?_)
  · replace h := (if_pos c2).symm.trans h
    refine dx_iload_n (pc := 18) hx dX9_toldOfPiece_18 rfl ?_
    refine dx_iconst (pc := 19) hx dX9_toldOfPiece_19 kc_4 ?_
    refine dx_icmp_ne (pc := 20) hx dX9_toldOfPiece_20 (tgt := 32) (by decide) (fun c20 => ?_) (fun c20 => ?_)
    · replace h := (if_neg c20).symm.trans h
      refine dx_iload_n (pc := 32) hx dX9_toldOfPiece_32 rfl ?_
      refine dx_iconst (pc := 33) hx dX9_toldOfPiece_33 kc_5 ?_
      refine dx_icmp_ne (pc := 34) hx dX9_toldOfPiece_34 (tgt := 46) (by decide) (fun c34 => ?_) (fun c34 => ?_)
      · replace h := (if_neg c34).symm.trans h
        refine dx_bipush (pc := 46) hx dX9_toldOfPiece_46 kb_m2 ?_
        obtain rfl := Option.some.inj h
        exact dx_iret hO (pc := 48) dX9_toldOfPiece_48 rfl ⟨_, rfl, rfl, rfl⟩
      · replace h := (if_pos c34).symm.trans h
        refine dx_aload_n (pc := 37) hx dX9_toldOfPiece_37 rfl ?_
        refine dx_getR (r := 60) (pc := 38) hx dX9_toldOfPiece_38 f_X9_22 rfl rfl ?_
        refine dx_iload_n (pc := 41) hx dX9_toldOfPiece_41 rfl ?_
        by_cases g42 : x1 < 0 ∨ 6 ≤ x1.toNatClampNeg
        · cases (if_pos g42).symm.trans h
        replace h := (if_neg g42).symm.trans h
        refine dx_iald (pc := 42) hx dX9_toldOfPiece_42 rfl g42 ?_
        refine dx_goto (pc := 43) hx dX9_toldOfPiece_43 (tgt := 48) (by decide) ?_
        obtain rfl := Option.some.inj h
        exact dx_iret hO (pc := 48) dX9_toldOfPiece_48 rfl ⟨_, rfl, rfl, rfl⟩
    · replace h := (if_pos c20).symm.trans h
      refine dx_aload_n (pc := 23) hx dX9_toldOfPiece_23 rfl ?_
      refine dx_getR (r := 59) (pc := 24) hx dX9_toldOfPiece_24 f_X9_19 rfl rfl ?_
      refine dx_iload_n (pc := 27) hx dX9_toldOfPiece_27 rfl ?_
      by_cases g28 : x1 < 0 ∨ 6 ≤ x1.toNatClampNeg
      · cases (if_pos g28).symm.trans h
      replace h := (if_neg g28).symm.trans h
      refine dx_iald (pc := 28) hx dX9_toldOfPiece_28 rfl g28 ?_
      refine dx_goto (pc := 29) hx dX9_toldOfPiece_29 (tgt := 48) (by decide) ?_
      obtain rfl := Option.some.inj h
      exact dx_iret hO (pc := 48) dX9_toldOfPiece_48 rfl ⟨_, rfl, rfl, rfl⟩
  · replace h := (if_neg c2).symm.trans h
    refine dx_aload_n (pc := 5) hx dX9_toldOfPiece_5 rfl ?_
    refine dx_getR (r := 58) (pc := 6) hx dX9_toldOfPiece_6 f_X9_16 rfl rfl ?_
    refine dx_iconst (pc := 9) hx dX9_toldOfPiece_9 kc_4 ?_
    refine dx_iload_n (pc := 10) hx dX9_toldOfPiece_10 rfl ?_
    refine dx_imul (pc := 11) hx dX9_toldOfPiece_11 ?_
    refine dx_iload_n (pc := 12) hx dX9_toldOfPiece_12 rfl ?_
    refine dx_iadd (pc := 13) hx dX9_toldOfPiece_13 ?_
    by_cases g14 : (((nI 4) * x1) + x2) < 0 ∨ 24 ≤ (((nI 4) * x1) + x2).toNatClampNeg
    · cases (if_pos g14).symm.trans h
    replace h := (if_neg g14).symm.trans h
    refine dx_iald (pc := 14) hx dX9_toldOfPiece_14 rfl g14 ?_
    refine dx_goto (pc := 15) hx dX9_toldOfPiece_15 (tgt := 48) (by decide) ?_
    obtain rfl := Option.some.inj h
    exact dx_iret hO (pc := 48) dX9_toldOfPiece_48 rfl ⟨_, rfl, rfl, rfl⟩
set_option maxHeartbeats 4000000 in
set_option maxRecDepth 100000 in
theorem th_X9_told {σ : dc_HP} {x1 : Int32} {r : Int32} (h : fn_X9_told σ x1 = some r) : dc_G mX9_told [.ref 55, .int x1] σ (dc_qi (fun x τ => x = r ∧ τ = σ)) := by
  intro κ hO
  have hx : dc_Cx κ RX9 cX9_told 2 3 68 := hO.1
  show dc_X κ 0 [some (.ref 55), some (.int x1)] [] σ
  unfold fn_X9_told at h
  refine dx_iload_n (pc := 0) hx dX9_told_0 rfl ?_
  refine dx_i2l (pc := 1) hx dX9_told_1 ?_
  refine dx_ldc2 (pc := 2) hx dX9_told_2 f_X9_344 ?_
  refine dx_ldc2 (pc := 5) hx dX9_told_5 f_X9_346 ?_
  obtain ⟨r8, h8, h⟩ := Option.bind_eq_some_iff.mp h
  refine dx_callSir (pc := 8) (As := [.long x1.toInt64, .long ((100 : Int64)), .long ((159 : Int64))]) (rest := []) hx dX9_told_8 k_X9_77 rfl (dc_le rfl) (dc_le rfl) (dc_le rfl) (dc_le rfl) rfl (th_X9_in h8) ?_
  refine dx_if_eq (pc := 11) hx dX9_told_11 (tgt := 30) (by decide) (fun c11 => ?_) (fun c11 => ?_)
  · replace h := (if_pos c11).symm.trans h
    refine dx_iload_n (pc := 30) hx dX9_told_30 rfl ?_
    refine dx_i2l (pc := 31) hx dX9_told_31 ?_
    refine dx_ldc2 (pc := 32) hx dX9_told_32 f_X9_298 ?_
    refine dx_ldc2 (pc := 35) hx dX9_told_35 f_X9_351 ?_
    obtain ⟨r38, h38, h⟩ := Option.bind_eq_some_iff.mp h
    refine dx_callSir (pc := 38) (As := [.long x1.toInt64, .long ((10 : Int64)), .long ((89 : Int64))]) (rest := []) hx dX9_told_38 k_X9_77 rfl (dc_le rfl) (dc_le rfl) (dc_le rfl) (dc_le rfl) rfl (th_X9_in h38) ?_
    refine dx_if_eq (pc := 41) hx dX9_told_41 (tgt := 59) (by decide) (fun c41 => ?_) (fun c41 => ?_)
    · replace h := (if_pos c41).symm.trans h
      refine dx_iload_n (pc := 59) hx dX9_told_59 rfl ?_
      by_cases c60_0 : x1 = nI 0
      · replace h := (if_pos c60_0).symm.trans h
        refine dx_tableIn (pc := 60) hx dX9_told_60 (by rw [c60_0]; decide) (by rw [c60_0]; decide) (off := 32) (by rw [c60_0]; decide) (tgt := 92) (by decide) ?_
        refine dx_aload_n (pc := 92) hx dX9_told_92 rfl ?_
        refine dx_getI (pc := 93) hx dX9_told_93 f_X9_118 rfl rfl ?_
        obtain rfl := Option.some.inj h
        exact dx_iret hO (pc := 96) dX9_told_96 rfl ⟨_, rfl, rfl, rfl⟩
      replace h := (if_neg c60_0).symm.trans h
      by_cases c60_1 : x1 = nI 1
      · replace h := (if_pos c60_1).symm.trans h
        refine dx_tableIn (pc := 60) hx dX9_told_60 (by rw [c60_1]; decide) (by rw [c60_1]; decide) (off := 37) (by rw [c60_1]; decide) (tgt := 97) (by decide) ?_
        refine dx_aload_n (pc := 97) hx dX9_told_97 rfl ?_
        refine dx_getI (pc := 98) hx dX9_told_98 f_X9_81 rfl rfl ?_
        obtain rfl := Option.some.inj h
        exact dx_iret hO (pc := 101) dX9_told_101 rfl ⟨_, rfl, rfl, rfl⟩
      replace h := (if_neg c60_1).symm.trans h
      by_cases c60_2 : x1 = nI 2
      · replace h := (if_pos c60_2).symm.trans h
        refine dx_tableIn (pc := 60) hx dX9_told_60 (by rw [c60_2]; decide) (by rw [c60_2]; decide) (off := 42) (by rw [c60_2]; decide) (tgt := 102) (by decide) ?_
        refine dx_aload_n (pc := 102) hx dX9_told_102 rfl ?_
        refine dx_getI (pc := 103) hx dX9_told_103 f_X9_154 rfl rfl ?_
        obtain rfl := Option.some.inj h
        exact dx_iret hO (pc := 106) dX9_told_106 rfl ⟨_, rfl, rfl, rfl⟩
      replace h := (if_neg c60_2).symm.trans h
      by_cases c60_3 : x1 = nI 3
      · replace h := (if_pos c60_3).symm.trans h
        refine dx_tableIn (pc := 60) hx dX9_told_60 (by rw [c60_3]; decide) (by rw [c60_3]; decide) (off := 47) (by rw [c60_3]; decide) (tgt := 107) (by decide) ?_
        refine dx_aload_n (pc := 107) hx dX9_told_107 rfl ?_
        refine dx_getI (pc := 108) hx dX9_told_108 f_X9_282 rfl rfl ?_
        obtain rfl := Option.some.inj h
        exact dx_iret hO (pc := 111) dX9_told_111 rfl ⟨_, rfl, rfl, rfl⟩
      replace h := (if_neg c60_3).symm.trans h
      refine dx_tableOut (pc := 60) hx dX9_told_60 (by have z0 := dc_swn (k := 0) (by decide) c60_0; have z1 := dc_swn (k := 1) (by decide) c60_1; have z2 := dc_swn (k := 2) (by decide) c60_2; have z3 := dc_swn (k := 3) (by decide) c60_3; omega) (tgt := 112) (by decide) ?_
      refine dx_bipush (pc := 112) hx dX9_told_112 kb_m2 ?_
      obtain rfl := Option.some.inj h
      exact dx_iret hO (pc := 114) dX9_told_114 rfl ⟨_, rfl, rfl, rfl⟩
    · replace h := (if_neg c41).symm.trans h
      refine dx_aload_n (pc := 44) hx dX9_told_44 rfl ?_
      refine dx_iload_n (pc := 45) hx dX9_told_45 rfl ?_
      refine dx_bipush (pc := 46) hx dX9_told_46 kb_10 ?_
      refine dx_idiv (pc := 48) hx dX9_told_48 (by decide) ?_
      refine dx_iconst (pc := 49) hx dX9_told_49 kc_1 ?_
      refine dx_isub (pc := 50) hx dX9_told_50 ?_
      refine dx_iload_n (pc := 51) hx dX9_told_51 rfl ?_
      refine dx_bipush (pc := 52) hx dX9_told_52 kb_10 ?_
      refine dx_irem (pc := 54) hx dX9_told_54 (by decide) ?_
      obtain ⟨r55, h55, h⟩ := Option.bind_eq_some_iff.mp h
      refine dx_callVir (pc := 55) (As := [.int ((x1 / (nI 10)) - (nI 1)), .int (x1 - x1 / (nI 10) * (nI 10))]) (rest := []) hx dX9_told_55 k_X9_353 rfl rfl rfl rfl (dc_le rfl) (dc_le rfl) (dc_le rfl) (dc_le rfl) rfl (th_X9_toldOfSinger h55) ?_
      obtain rfl := Option.some.inj h
      exact dx_iret hO (pc := 58) dX9_told_58 rfl ⟨_, rfl, rfl, rfl⟩
  · replace h := (if_neg c11).symm.trans h
    refine dx_aload_n (pc := 14) hx dX9_told_14 rfl ?_
    refine dx_iload_n (pc := 15) hx dX9_told_15 rfl ?_
    refine dx_bipush (pc := 16) hx dX9_told_16 kb_100 ?_
    refine dx_isub (pc := 18) hx dX9_told_18 ?_
    refine dx_bipush (pc := 19) hx dX9_told_19 kb_10 ?_
    refine dx_idiv (pc := 21) hx dX9_told_21 (by decide) ?_
    refine dx_iload_n (pc := 22) hx dX9_told_22 rfl ?_
    refine dx_bipush (pc := 23) hx dX9_told_23 kb_10 ?_
    refine dx_irem (pc := 25) hx dX9_told_25 (by decide) ?_
    obtain ⟨r26, h26, h⟩ := Option.bind_eq_some_iff.mp h
    refine dx_callVir (pc := 26) (As := [.int ((x1 - (nI 100)) / (nI 10)), .int (x1 - x1 / (nI 10) * (nI 10))]) (rest := []) hx dX9_told_26 k_X9_348 rfl rfl rfl rfl (dc_le rfl) (dc_le rfl) (dc_le rfl) (dc_le rfl) rfl (th_X9_toldOfPiece h26) ?_
    obtain rfl := Option.some.inj h
    exact dx_iret hO (pc := 29) dX9_told_29 rfl ⟨_, rfl, rfl, rfl⟩
