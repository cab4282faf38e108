set_option maxHeartbeats 4000000 in
set_option maxRecDepth 100000 in
theorem th_X8_singer {σ : dc_HP} {x1 : Int32} {x2 : Int32} {x3 : Int32} {r : Int32 × dc_HP} (h : fn_X8_singer σ x1 x2 x3 = some r) : dc_G mX8_singer [.ref 0, .int x1, .int x2, .int x3] σ (dc_qi (fun x τ => x = r.1 ∧ τ = r.2)) := by
  intro κ hO
  have hx : dc_Cx κ RX8 cX8_singer 4 2 45 := hO.1
  show dc_X κ 0 [some (.ref 0), some (.int x1), some (.int x2), some (.int x3)] [] σ
  unfold fn_X8_singer at h
  refine dx_iload_n (pc := 0) hx dX8_singer_0 rfl ?_
  refine dx_iconst (pc := 1) hx dX8_singer_1 kc_0 ?_
  refine dx_bipush (pc := 2) hx dX8_singer_2 kb_7 ?_
  obtain ⟨r4, h4, h⟩ := Option.bind_eq_some_iff.mp h
  refine dx_callSir (pc := 4) (As := [.int x1, .int (nI 0), .int (nI 7)]) (rest := []) hx dX8_singer_4 k_X8_68 rfl (dc_le rfl) (dc_le rfl) (dc_le rfl) (dc_le rfl) rfl (th_X8_within h4) ?_
  refine dx_if_ne (pc := 7) hx dX8_singer_7 (tgt := 12) (by decide) (fun c7 => ?_) (fun c7 => ?_)
  · replace h := (if_neg c7).symm.trans h
    refine dx_iload_n (pc := 12) hx dX8_singer_12 rfl ?_
    refine dx_iconst (pc := 13) hx dX8_singer_13 kc_0 ?_
    refine dx_iconst (pc := 14) hx dX8_singer_14 kc_3 ?_
    obtain ⟨r15, h15, h⟩ := Option.bind_eq_some_iff.mp h
    refine dx_callSir (pc := 15) (As := [.int x2, .int (nI 0), .int (nI 3)]) (rest := []) hx dX8_singer_15 k_X8_68 rfl (dc_le rfl) (dc_le rfl) (dc_le rfl) (dc_le rfl) rfl (th_X8_within h15) ?_
    refine dx_if_eq (pc := 18) hx dX8_singer_18 (tgt := 32) (by decide) (fun c18 => ?_) (fun c18 => ?_)
    · replace h := (if_pos c18).symm.trans h
      refine dx_bipush (pc := 32) hx dX8_singer_32 kb_m2 ?_
      obtain rfl := Option.some.inj h
      exact dx_iret hO (pc := 34) dX8_singer_34 rfl ⟨_, rfl, rfl, rfl⟩
    · replace h := (if_neg c18).symm.trans h
      refine dx_iload_n (pc := 21) hx dX8_singer_21 rfl ?_
      refine dx_iconst (pc := 22) hx dX8_singer_22 kc_0 ?_
      refine dx_sipush (pc := 23) hx dX8_singer_23 ks_999 ?_
      obtain ⟨r26, h26, h⟩ := Option.bind_eq_some_iff.mp h
      refine dx_callSir (pc := 26) (As := [.int x3, .int (nI 0), .int (nI 999)]) (rest := []) hx dX8_singer_26 k_X8_68 rfl (dc_le rfl) (dc_le rfl) (dc_le rfl) (dc_le rfl) rfl (th_X8_within h26) ?_
      refine dx_if_ne (pc := 29) hx dX8_singer_29 (tgt := 35) (by decide) (fun c29 => ?_) (fun c29 => ?_)
      · replace h := (if_neg c29).symm.trans h
        refine dx_aload_n (pc := 35) hx dX8_singer_35 rfl ?_
        refine dx_getR (r := 1) (pc := 36) hx dX8_singer_36 f_X8_10 rfl rfl ?_
        refine dx_iload_n (pc := 39) hx dX8_singer_39 rfl ?_
        refine dx_iload_n (pc := 40) hx dX8_singer_40 rfl ?_
        refine dx_iload_n (pc := 41) hx dX8_singer_41 rfl ?_
        obtain ⟨r42, h42, h⟩ := Option.bind_eq_some_iff.mp h
        refine dx_callVvw (pc := 42) (As := [.int x1, .int x2, .int x3]) (rest := []) hx dX8_singer_42 k_X8_72 rfl rfl rfl rfl (dc_le rfl) (dc_le rfl) (dc_le rfl) (dc_le rfl) rfl (th_X0_come_1 h42) ?_
        refine dx_aload_n (pc := 45) hx dX8_singer_45 rfl ?_
        refine dx_getR (r := 1) (pc := 46) hx dX8_singer_46 f_X8_10 rfl rfl ?_
        refine dx_getI (pc := 49) hx dX8_singer_49 f_X8_76 rfl rfl ?_
        obtain ⟨r52, h52, h⟩ := Option.bind_eq_some_iff.mp h
        refine dx_callSir (pc := 52) (As := [.int (r42.1 1 0)]) (rest := []) hx dX8_singer_52 k_X8_80 rfl (dc_le rfl) (dc_le rfl) (dc_le rfl) (dc_le rfl) rfl (th_J6_bitCount_0f7a4 h52) ?_
        obtain rfl := Option.some.inj h
        exact dx_iret hO (pc := 55) dX8_singer_55 rfl ⟨_, rfl, rfl, rfl⟩
      · replace h := (if_pos c29).symm.trans h
        refine dx_bipush (pc := 32) hx dX8_singer_32 kb_m2 ?_
        obtain rfl := Option.some.inj h
        exact dx_iret hO (pc := 34) dX8_singer_34 rfl ⟨_, rfl, rfl, rfl⟩
  · replace h := (if_pos c7).symm.trans h
    refine dx_iconst (pc := 10) hx dX8_singer_10 kc_m1 ?_
    obtain rfl := Option.some.inj h
    exact dx_iret hO (pc := 11) dX8_singer_11 rfl ⟨_, rfl, rfl, rfl⟩
set_option maxHeartbeats 4000000 in
set_option maxRecDepth 100000 in
theorem th_X8_leave {σ : dc_HP} {x1 : Int32} {r : Int32 × dc_HP} (h : fn_X8_leave σ x1 = some r) : dc_G mX8_leave [.ref 0, .int x1] σ (dc_qi (fun x τ => x = r.1 ∧ τ = r.2)) := by
  intro κ hO
  have hx : dc_Cx κ RX8 cX8_leave 2 3 66 := hO.1
  show dc_X κ 0 [some (.ref 0), some (.int x1)] [] σ
  unfold fn_X8_leave at h
  refine dx_aload_n (pc := 0) hx dX8_leave_0 rfl ?_
  refine dx_getR (r := 1) (pc := 1) hx dX8_leave_1 f_X8_10 rfl rfl ?_
  refine dx_iload_n (pc := 4) hx dX8_leave_4 rfl ?_
  obtain ⟨r5, h5, h⟩ := Option.bind_eq_some_iff.mp h
  refine dx_callVir (pc := 5) (As := [.int x1]) (rest := []) hx dX8_leave_5 k_X8_86 rfl rfl rfl rfl (dc_le rfl) (dc_le rfl) (dc_le rfl) (dc_le rfl) rfl (th_X0_has_1 h5) ?_
  refine dx_if_ne (pc := 8) hx dX8_leave_8 (tgt := 13) (by decide) (fun c8 => ?_) (fun c8 => ?_)
  · replace h := (if_neg c8).symm.trans h
    refine dx_aload_n (pc := 13) hx dX8_leave_13 rfl ?_
    refine dx_getR (r := 1) (pc := 14) hx dX8_leave_14 f_X8_10 rfl rfl ?_
    refine dx_iload_n (pc := 17) hx dX8_leave_17 rfl ?_
    obtain ⟨r18, h18, h⟩ := Option.bind_eq_some_iff.mp h
    refine dx_callVvw (pc := 18) (As := [.int x1]) (rest := []) hx dX8_leave_18 k_X8_90 rfl rfl rfl rfl (dc_le rfl) (dc_le rfl) (dc_le rfl) (dc_le rfl) rfl (th_X0_go_1 h18) ?_
    refine dx_aload_n (pc := 21) hx dX8_leave_21 rfl ?_
    refine dx_getR (r := 1) (pc := 22) hx dX8_leave_22 f_X8_10 rfl rfl ?_
    refine dx_getI (pc := 25) hx dX8_leave_25 f_X8_76 rfl rfl ?_
    obtain ⟨r28, h28, h⟩ := Option.bind_eq_some_iff.mp h
    refine dx_callSir (pc := 28) (As := [.int (r18.1 1 0)]) (rest := []) hx dX8_leave_28 k_X8_80 rfl (dc_le rfl) (dc_le rfl) (dc_le rfl) (dc_le rfl) rfl (th_J6_bitCount_0f7a4 h28) ?_
    obtain rfl := Option.some.inj h
    exact dx_iret hO (pc := 31) dX8_leave_31 rfl ⟨_, rfl, rfl, rfl⟩
  · replace h := (if_pos c8).symm.trans h
    refine dx_iconst (pc := 11) hx dX8_leave_11 kc_m1 ?_
    obtain rfl := Option.some.inj h
    exact dx_iret hO (pc := 12) dX8_leave_12 rfl ⟨_, rfl, rfl, rfl⟩
set_option maxHeartbeats 4000000 in
set_option maxRecDepth 100000 in
theorem th_X8_piece {σ : dc_HP} {x1 : Int32} {x2 : Int32} {x3 : Int32} {x4 : Int32} {r : Int32 × dc_HP} (h : fn_X8_piece σ x1 x2 x3 x4 = some r) : dc_G mX8_piece [.ref 0, .int x1, .int x2, .int x3, .int x4] σ (dc_qi (fun x τ => x = r.1 ∧ τ = r.2)) := by
  intro κ hO
  have hx : dc_Cx κ RX8 cX8_piece 6 2 48 := hO.1
  show dc_X κ 0 [some (.ref 0), some (.int x1), some (.int x2), some (.int x3), some (.int x4), none] [] σ
  unfold fn_X8_piece at h
  refine dx_iload_n (pc := 0) hx dX8_piece_0 rfl ?_
  refine dx_iconst (pc := 1) hx dX8_piece_1 kc_0 ?_
  refine dx_iconst (pc := 2) hx dX8_piece_2 kc_5 ?_
  obtain ⟨r3, h3, h⟩ := Option.bind_eq_some_iff.mp h
  refine dx_callSir (pc := 3) (As := [.int x1, .int (nI 0), .int (nI 5)]) (rest := []) hx dX8_piece_3 k_X8_68 rfl (dc_le rfl) (dc_le rfl) (dc_le rfl) (dc_le rfl) rfl (th_X8_within h3) ?_
  refine dx_if_ne (pc := 6) hx dX8_piece_6 (tgt := 11) (by decide) (fun c6 => ?_) (fun c6 => ?_)
  · replace h := (if_neg c6).symm.trans h
    refine dx_iload_n (pc := 11) hx dX8_piece_11 rfl ?_
    obtain ⟨r12, h12, h⟩ := Option.bind_eq_some_iff.mp h
    refine dx_callSir (pc := 12) (As := [.int x2]) (rest := []) hx dX8_piece_12 k_X8_94 rfl (dc_le rfl) (dc_le rfl) (dc_le rfl) (dc_le rfl) rfl (th_X8_areNeeds h12) ?_
    refine dx_if_eq (pc := 15) hx dX8_piece_15 (tgt := 39) (by decide) (fun c15 => ?_) (fun c15 => ?_)
    · replace h := (if_pos c15).symm.trans h
      refine dx_bipush (pc := 39) hx dX8_piece_39 kb_m2 ?_
      obtain rfl := Option.some.inj h
      exact dx_iret hO (pc := 41) dX8_piece_41 rfl ⟨_, rfl, rfl, rfl⟩
    · replace h := (if_neg c15).symm.trans h
      refine dx_iload_n (pc := 18) hx dX8_piece_18 rfl ?_
      refine dx_iconst (pc := 19) hx dX8_piece_19 kc_0 ?_
      refine dx_bipush (pc := 20) hx dX8_piece_20 kb_60 ?_
      obtain ⟨r22, h22, h⟩ := Option.bind_eq_some_iff.mp h
      refine dx_callSir (pc := 22) (As := [.int x3, .int (nI 0), .int (nI 60)]) (rest := []) hx dX8_piece_22 k_X8_68 rfl (dc_le rfl) (dc_le rfl) (dc_le rfl) (dc_le rfl) rfl (th_X8_within h22) ?_
      refine dx_if_eq (pc := 25) hx dX8_piece_25 (tgt := 39) (by decide) (fun c25 => ?_) (fun c25 => ?_)
      · replace h := (if_pos c25).symm.trans h
        refine dx_bipush (pc := 39) hx dX8_piece_39 kb_m2 ?_
        obtain rfl := Option.some.inj h
        exact dx_iret hO (pc := 41) dX8_piece_41 rfl ⟨_, rfl, rfl, rfl⟩
      · replace h := (if_neg c25).symm.trans h
        refine dx_iload (pc := 28) hx dX8_piece_28 rfl ?_
        refine dx_iconst (pc := 30) hx dX8_piece_30 kc_0 ?_
        refine dx_bipush (pc := 31) hx dX8_piece_31 kb_9 ?_
        obtain ⟨r33, h33, h⟩ := Option.bind_eq_some_iff.mp h
        refine dx_callSir (pc := 33) (As := [.int x4, .int (nI 0), .int (nI 9)]) (rest := []) hx dX8_piece_33 k_X8_68 rfl (dc_le rfl) (dc_le rfl) (dc_le rfl) (dc_le rfl) rfl (th_X8_within h33) ?_
        refine dx_if_ne (pc := 36) hx dX8_piece_36 (tgt := 42) (by decide) (fun c36 => ?_) (fun c36 => ?_)
        · replace h := (if_neg c36).symm.trans h
          refine dx_aload_n (pc := 42) hx dX8_piece_42 rfl ?_
          refine dx_getR (r := 1) (pc := 43) hx dX8_piece_43 f_X8_10 rfl rfl ?_
          refine dx_iload_n (pc := 46) hx dX8_piece_46 rfl ?_
          obtain ⟨r47, h47, h⟩ := Option.bind_eq_some_iff.mp h
          refine dx_callVir (pc := 47) (As := [.int x1]) (rest := []) hx dX8_piece_47 k_X8_97 rfl rfl rfl rfl (dc_le rfl) (dc_le rfl) (dc_le rfl) (dc_le rfl) rfl (th_X0_barsOf_1 h47) ?_
          refine dx_istore (pc := 50) hx dX8_piece_50 (dc_le rfl) (ls' := [some (.ref 0), some (.int x1), some (.int x2), some (.int x3), some (.int x4), some (.int r47)]) rfl ?_
          refine dx_aload_n (pc := 52) hx dX8_piece_52 rfl ?_
          refine dx_getR (r := 1) (pc := 53) hx dX8_piece_53 f_X8_10 rfl rfl ?_
          refine dx_iload_n (pc := 56) hx dX8_piece_56 rfl ?_
          refine dx_iload_n (pc := 57) hx dX8_piece_57 rfl ?_
          refine dx_iload_n (pc := 58) hx dX8_piece_58 rfl ?_
          refine dx_iload (pc := 59) hx dX8_piece_59 rfl ?_
          obtain ⟨r61, h61, h⟩ := Option.bind_eq_some_iff.mp h
          refine dx_callVvw (pc := 61) (As := [.int x1, .int x2, .int x3, .int x4]) (rest := []) hx dX8_piece_61 k_X8_100 rfl rfl rfl rfl (dc_le rfl) (dc_le rfl) (dc_le rfl) (dc_le rfl) rfl (th_X0_write_1 h61) ?_
          refine dx_iload (pc := 64) hx dX8_piece_64 rfl ?_
          obtain rfl := Option.some.inj h
          exact dx_iret hO (pc := 66) dX8_piece_66 rfl ⟨_, rfl, rfl, rfl⟩
        · replace h := (if_pos c36).symm.trans h
          refine dx_bipush (pc := 39) hx dX8_piece_39 kb_m2 ?_
          obtain rfl := Option.some.inj h
          exact dx_iret hO (pc := 41) dX8_piece_41 rfl ⟨_, rfl, rfl, rfl⟩
  · replace h := (if_pos c6).symm.trans h
    refine dx_iconst (pc := 9) hx dX8_piece_9 kc_m1 ?_
    obtain rfl := Option.some.inj h
    exact dx_iret hO (pc := 10) dX8_piece_10 rfl ⟨_, rfl, rfl, rfl⟩
set_option maxHeartbeats 4000000 in
set_option maxRecDepth 100000 in
theorem th_X8_say {σ : dc_HP} {x1 : Int32} {r : Int32 × dc_HP} (h : fn_X8_say σ x1 = some r) : dc_G mX8_say [.ref 0, .int x1] σ (dc_qi (fun x τ => x = r.1 ∧ τ = r.2)) := by
  intro κ hO
  have hx : dc_Cx κ RX8 cX8_say 2 2 43 := hO.1
  show dc_X κ 0 [some (.ref 0), some (.int x1)] [] σ
  unfold fn_X8_say at h
  refine dx_iload_n (pc := 0) hx dX8_say_0 rfl ?_
  refine dx_bipush (pc := 1) hx dX8_say_1 kb_33 ?_
  refine dx_bipush (pc := 3) hx dX8_say_3 kb_126 ?_
  obtain ⟨r5, h5, h⟩ := Option.bind_eq_some_iff.mp h
  refine dx_callSir (pc := 5) (As := [.int x1, .int (nI 33), .int (nI 126)]) (rest := []) hx dX8_say_5 k_X8_68 rfl (dc_le rfl) (dc_le rfl) (dc_le rfl) (dc_le rfl) rfl (th_X8_within h5) ?_
  refine dx_if_ne (pc := 8) hx dX8_say_8 (tgt := 14) (by decide) (fun c8 => ?_) (fun c8 => ?_)
  · replace h := (if_neg c8).symm.trans h
    refine dx_aload_n (pc := 14) hx dX8_say_14 rfl ?_
    refine dx_getR (r := 12) (pc := 15) hx dX8_say_15 f_X8_26 rfl rfl ?_
    refine dx_iload_n (pc := 18) hx dX8_say_18 rfl ?_
    obtain ⟨r19, h19, h⟩ := Option.bind_eq_some_iff.mp h
    refine dx_callViw (pc := 19) (As := [.int x1]) (rest := []) hx dX8_say_19 k_X8_104 rfl rfl rfl rfl (dc_le rfl) (dc_le rfl) (dc_le rfl) (dc_le rfl) rfl (th_X4_add h19) ?_
    refine dx_if_eq (pc := 22) hx dX8_say_22 (tgt := 35) (by decide) (fun c22 => ?_) (fun c22 => ?_)
    · replace h := (if_pos c22).symm.trans h
      refine dx_bipush (pc := 35) hx dX8_say_35 kb_m4 ?_
      obtain rfl := Option.some.inj h
      exact dx_iret hO (pc := 37) dX8_say_37 rfl ⟨_, rfl, rfl, rfl⟩
    · replace h := (if_neg c22).symm.trans h
      refine dx_aload_n (pc := 25) hx dX8_say_25 rfl ?_
      refine dx_getR (r := 12) (pc := 26) hx dX8_say_26 f_X8_26 rfl rfl ?_
      refine dx_getI (pc := 29) hx dX8_say_29 f_X8_107 rfl rfl ?_
      refine dx_goto (pc := 32) hx dX8_say_32 (tgt := 37) (by decide) ?_
      obtain rfl := Option.some.inj h
      exact dx_iret hO (pc := 37) dX8_say_37 rfl ⟨_, rfl, rfl, rfl⟩
  · replace h := (if_pos c8).symm.trans h
    refine dx_bipush (pc := 11) hx dX8_say_11 kb_m2 ?_
    obtain rfl := Option.some.inj h
    exact dx_iret hO (pc := 13) dX8_say_13 rfl ⟨_, rfl, rfl, rfl⟩
set_option maxHeartbeats 4000000 in
set_option maxRecDepth 100000 in
theorem th_X8_wipe {σ : dc_HP} {r : Int32 × dc_HP} (h : fn_X8_wipe σ = some r) : dc_G mX8_wipe [.ref 0] σ (dc_qi (fun x τ => x = r.1 ∧ τ = r.2)) := by
  intro κ hO
  have hx : dc_Cx κ RX8 cX8_wipe 2 0 0 := hO.1
  show dc_X κ 0 [some (.ref 0), none] [] σ
  unfold fn_X8_wipe at h
  refine dx_aload_n (pc := 0) hx dX8_wipe_0 rfl ?_
  refine dx_getR (r := 12) (pc := 1) hx dX8_wipe_1 f_X8_26 rfl rfl ?_
  refine dx_getI (pc := 4) hx dX8_wipe_4 f_X8_107 rfl rfl ?_
  refine dx_istore_n (pc := 7) hx dX8_wipe_7 (dc_le rfl) (ls' := [some (.ref 0), some (.int (σ.1 12 0))]) rfl ?_
  refine dx_aload_n (pc := 8) hx dX8_wipe_8 rfl ?_
  refine dx_getR (r := 12) (pc := 9) hx dX8_wipe_9 f_X8_26 rfl rfl ?_
  refine dx_iconst (pc := 12) hx dX8_wipe_12 kc_0 ?_
  refine dx_putI (pc := 13) hx dX8_wipe_13 f_X8_107 rfl rfl tyX4_ok rfl (Or.inl ⟨rfl, rfl⟩) ?_
  refine dx_nm (fun s13 e13 => ?_)
  replace h := dc_lt e13 h
  refine dx_iload_n (pc := 16) hx dX8_wipe_16 rfl ?_
  obtain rfl := Option.some.inj h
  exact dx_iret hO (pc := 17) dX8_wipe_17 rfl ⟨_, rfl, rfl, rfl⟩
set_option maxHeartbeats 4000000 in
set_option maxRecDepth 100000 in
theorem th_X8_fault {σ : dc_HP} {r : Int32} (h : fn_X8_fault σ = some r) : dc_G mX8_fault [.ref 0] σ (dc_qi (fun x τ => x = r ∧ τ = σ)) := by
  intro κ hO
  have hx : dc_Cx κ RX8 cX8_fault 1 4 90 := hO.1
  show dc_X κ 0 [some (.ref 0)] [] σ
  unfold fn_X8_fault at h
  refine dx_aload_n (pc := 0) hx dX8_fault_0 rfl ?_
  refine dx_getR (r := 12) (pc := 1) hx dX8_fault_1 f_X8_26 rfl rfl ?_
  obtain ⟨r4, h4, h⟩ := Option.bind_eq_some_iff.mp h
  refine dx_callVir (pc := 4) (As := []) (rest := []) hx dX8_fault_4 k_X8_110 rfl rfl rfl rfl (dc_le rfl) (dc_le rfl) (dc_le rfl) (dc_le rfl) rfl (th_X4_faultPlace h4) ?_
  obtain rfl := Option.some.inj h
  exact dx_iret hO (pc := 7) dX8_fault_7 rfl ⟨_, rfl, rfl, rfl⟩
set_option maxHeartbeats 4000000 in
set_option maxRecDepth 100000 in
theorem th_X8_judge {σ : dc_HP} {x1 : Int32} {r : Int32 × dc_HP} (h : fn_X8_judge σ x1 = some r) : dc_G mX8_judge [.ref 0, .int x1] σ (dc_qi (fun x τ => x = r.1 ∧ τ = r.2)) := by
  intro κ hO
  have hx : dc_Cx κ RX8 cX8_judge 3 6 139 := hO.1
  show dc_X κ 0 [some (.ref 0), some (.int x1), none] [] σ
  unfold fn_X8_judge at h
  refine dx_iload_n (pc := 0) hx dX8_judge_0 rfl ?_
  refine dx_iconst (pc := 1) hx dX8_judge_1 kc_0 ?_
  refine dx_iconst (pc := 2) hx dX8_judge_2 kc_2 ?_
  obtain ⟨r3, h3, h⟩ := Option.bind_eq_some_iff.mp h
  refine dx_callSir (pc := 3) (As := [.int x1, .int (nI 0), .int (nI 2)]) (rest := []) hx dX8_judge_3 k_X8_68 rfl (dc_le rfl) (dc_le rfl) (dc_le rfl) (dc_le rfl) rfl (th_X8_within h3) ?_
  refine dx_if_ne (pc := 6) hx dX8_judge_6 (tgt := 12) (by decide) (fun c6 => ?_) (fun c6 => ?_)
  · replace h := (if_neg c6).symm.trans h
    refine dx_aload_n (pc := 12) hx dX8_judge_12 rfl ?_
    refine dx_getR (r := 14) (pc := 13) hx dX8_judge_13 f_X8_33 rfl rfl ?_
    refine dx_aload_n (pc := 16) hx dX8_judge_16 rfl ?_
    refine dx_getR (r := 12) (pc := 17) hx dX8_judge_17 f_X8_26 rfl rfl ?_
    refine dx_aload_n (pc := 20) hx dX8_judge_20 rfl ?_
    refine dx_getR (r := 1) (pc := 21) hx dX8_judge_21 f_X8_10 rfl rfl ?_
    obtain ⟨r24, h24, h⟩ := Option.bind_eq_some_iff.mp h
    refine dx_callViw (pc := 24) (As := [.ref 12, .ref 1]) (rest := []) hx dX8_judge_24 k_X8_114 rfl rfl rfl rfl (dc_le rfl) (dc_le rfl) (dc_le rfl) (dc_le rfl) rfl (th_X7_play_1 h24) ?_
    refine dx_istore_n (pc := 27) hx dX8_judge_27 (dc_le rfl) (ls' := [some (.ref 0), some (.int x1), some (.int r24.1)]) rfl ?_
    refine dx_iload_n (pc := 28) hx dX8_judge_28 rfl ?_
    refine dx_bipush (pc := 29) hx dX8_judge_29 kb_m5 ?_
    refine dx_icmp_eq (pc := 31) hx dX8_judge_31 (tgt := 45) (by decide) (fun c31 => ?_) (fun c31 => ?_)
    · replace h := (if_pos c31).symm.trans h
      refine dx_iload_n (pc := 45) hx dX8_judge_45 rfl ?_
      obtain rfl := Option.some.inj h
      exact dx_iret hO (pc := 46) dX8_judge_46 rfl ⟨_, rfl, rfl, rfl⟩
    · replace h := (if_neg c31).symm.trans h
      refine dx_iload_n (pc := 34) hx dX8_judge_34 rfl ?_
      refine dx_bipush (pc := 35) hx dX8_judge_35 kb_m3 ?_
      refine dx_icmp_ne (pc := 37) hx dX8_judge_37 (tgt := 47) (by decide) (fun c37 => ?_) (fun c37 => ?_)
      · replace h := (if_neg c37).symm.trans h
        refine dx_iload_n (pc := 47) hx dX8_judge_47 rfl ?_
        refine dx_if_ne (pc := 48) hx dX8_judge_48 (tgt := 59) (by decide) (fun c48 => ?_) (fun c48 => ?_)
        · replace h := (if_neg c48).symm.trans h
          refine dx_iload_n (pc := 59) hx dX8_judge_59 rfl ?_
          refine dx_iconst (pc := 60) hx dX8_judge_60 kc_1 ?_
          refine dx_icmp_ne (pc := 61) hx dX8_judge_61 (tgt := 74) (by decide) (fun c61 => ?_) (fun c61 => ?_)
          · replace h := (if_neg c61).symm.trans h
            refine dx_aload_n (pc := 74) hx dX8_judge_74 rfl ?_
            refine dx_getR (r := 14) (pc := 75) hx dX8_judge_75 f_X8_33 rfl rfl ?_
            refine dx_getI (pc := 78) hx dX8_judge_78 f_X8_124 rfl rfl ?_
            obtain rfl := Option.some.inj h
            exact dx_iret hO (pc := 81) dX8_judge_81 rfl ⟨_, rfl, rfl, rfl⟩
          · replace h := (if_pos c61).symm.trans h
            refine dx_aload_n (pc := 64) hx dX8_judge_64 rfl ?_
            refine dx_getR (r := 14) (pc := 65) hx dX8_judge_65 f_X8_33 rfl rfl ?_
            refine dx_getI (pc := 68) hx dX8_judge_68 f_X8_121 rfl rfl ?_
            refine dx_goto (pc := 71) hx dX8_judge_71 (tgt := 81) (by decide) ?_
            obtain rfl := Option.some.inj h
            exact dx_iret hO (pc := 81) dX8_judge_81 rfl ⟨_, rfl, rfl, rfl⟩
        · replace h := (if_pos c48).symm.trans h
          refine dx_aload_n (pc := 51) hx dX8_judge_51 rfl ?_
          refine dx_getR (r := 14) (pc := 52) hx dX8_judge_52 f_X8_33 rfl rfl ?_
          refine dx_getI (pc := 55) hx dX8_judge_55 f_X8_118 rfl rfl ?_
          obtain rfl := Option.some.inj h
          exact dx_iret hO (pc := 58) dX8_judge_58 rfl ⟨_, rfl, rfl, rfl⟩
      · replace h := (if_pos c37).symm.trans h
        refine dx_iload_n (pc := 40) hx dX8_judge_40 rfl ?_
        refine dx_iconst (pc := 41) hx dX8_judge_41 kc_2 ?_
        refine dx_icmp_ne (pc := 42) hx dX8_judge_42 (tgt := 47) (by decide) (fun c42 => ?_) (fun c42 => ?_)
        · replace h := (if_neg c42).symm.trans h
          refine dx_iload_n (pc := 47) hx dX8_judge_47 rfl ?_
          refine dx_if_ne (pc := 48) hx dX8_judge_48 (tgt := 59) (by decide) (fun c48 => ?_) (fun c48 => ?_)
          · replace h := (if_neg c48).symm.trans h
            refine dx_iload_n (pc := 59) hx dX8_judge_59 rfl ?_
            refine dx_iconst (pc := 60) hx dX8_judge_60 kc_1 ?_
            refine dx_icmp_ne (pc := 61) hx dX8_judge_61 (tgt := 74) (by decide) (fun c61 => ?_) (fun c61 => ?_)
            · replace h := (if_neg c61).symm.trans h
              refine dx_aload_n (pc := 74) hx dX8_judge_74 rfl ?_
              refine dx_getR (r := 14) (pc := 75) hx dX8_judge_75 f_X8_33 rfl rfl ?_
              refine dx_getI (pc := 78) hx dX8_judge_78 f_X8_124 rfl rfl ?_
              obtain rfl := Option.some.inj h
              exact dx_iret hO (pc := 81) dX8_judge_81 rfl ⟨_, rfl, rfl, rfl⟩
            · replace h := (if_pos c61).symm.trans h
              refine dx_aload_n (pc := 64) hx dX8_judge_64 rfl ?_
              refine dx_getR (r := 14) (pc := 65) hx dX8_judge_65 f_X8_33 rfl rfl ?_
              refine dx_getI (pc := 68) hx dX8_judge_68 f_X8_121 rfl rfl ?_
              refine dx_goto (pc := 71) hx dX8_judge_71 (tgt := 81) (by decide) ?_
              obtain rfl := Option.some.inj h
              exact dx_iret hO (pc := 81) dX8_judge_81 rfl ⟨_, rfl, rfl, rfl⟩
          · replace h := (if_pos c48).symm.trans h
            refine dx_aload_n (pc := 51) hx dX8_judge_51 rfl ?_
            refine dx_getR (r := 14) (pc := 52) hx dX8_judge_52 f_X8_33 rfl rfl ?_
            refine dx_getI (pc := 55) hx dX8_judge_55 f_X8_118 rfl rfl ?_
            obtain rfl := Option.some.inj h
            exact dx_iret hO (pc := 58) dX8_judge_58 rfl ⟨_, rfl, rfl, rfl⟩
        · replace h := (if_pos c42).symm.trans h
          refine dx_iload_n (pc := 45) hx dX8_judge_45 rfl ?_
          obtain rfl := Option.some.inj h
          exact dx_iret hO (pc := 46) dX8_judge_46 rfl ⟨_, rfl, rfl, rfl⟩
  · replace h := (if_pos c6).symm.trans h
    refine dx_bipush (pc := 9) hx dX8_judge_9 kb_m2 ?_
    obtain rfl := Option.some.inj h
    exact dx_iret hO (pc := 11) dX8_judge_11 rfl ⟨_, rfl, rfl, rfl⟩
set_option maxHeartbeats 4000000 in
set_option maxRecDepth 100000 in
theorem th_X8_behind {σ : dc_HP} {x1 : Int32} {x2 : Int32} {r : Int32 × dc_HP} (h : fn_X8_behind σ x1 x2 = some r) : dc_G mX8_behind [.ref 0, .int x1, .int x2] σ (dc_qi (fun x τ => x = r.1 ∧ τ = r.2)) := by
  intro κ hO
  have hx : dc_Cx κ RX8 cX8_behind 4 6 139 := hO.1
  show dc_X κ 0 [some (.ref 0), some (.int x1), some (.int x2), none] [] σ
  unfold fn_X8_behind at h
  refine dx_aload_n (pc := 0) hx dX8_behind_0 rfl ?_
  refine dx_getR (r := 1) (pc := 1) hx dX8_behind_1 f_X8_10 rfl rfl ?_
  refine dx_iload_n (pc := 4) hx dX8_behind_4 rfl ?_
  obtain ⟨r5, h5, h⟩ := Option.bind_eq_some_iff.mp h
  refine dx_callVir (pc := 5) (As := [.int x1]) (rest := []) hx dX8_behind_5 k_X8_86 rfl rfl rfl rfl (dc_le rfl) (dc_le rfl) (dc_le rfl) (dc_le rfl) rfl (th_X0_has_1 h5) ?_
  refine dx_if_ne (pc := 8) hx dX8_behind_8 (tgt := 13) (by decide) (fun c8 => ?_) (fun c8 => ?_)
  · replace h := (if_neg c8).symm.trans h
    refine dx_iload_n (pc := 13) hx dX8_behind_13 rfl ?_
    refine dx_iconst (pc := 14) hx dX8_behind_14 kc_0 ?_
    refine dx_iconst (pc := 15) hx dX8_behind_15 kc_2 ?_
    obtain ⟨r16, h16, h⟩ := Option.bind_eq_some_iff.mp h
    refine dx_callSir (pc := 16) (As := [.int x2, .int (nI 0), .int (nI 2)]) (rest := []) hx dX8_behind_16 k_X8_68 rfl (dc_le rfl) (dc_le rfl) (dc_le rfl) (dc_le rfl) rfl (th_X8_within h16) ?_
    refine dx_if_ne (pc := 19) hx dX8_behind_19 (tgt := 25) (by decide) (fun c19 => ?_) (fun c19 => ?_)
    · replace h := (if_neg c19).symm.trans h
      refine dx_aload_n (pc := 25) hx dX8_behind_25 rfl ?_
      refine dx_getR (r := 14) (pc := 26) hx dX8_behind_26 f_X8_33 rfl rfl ?_
      refine dx_aload_n (pc := 29) hx dX8_behind_29 rfl ?_
      refine dx_getR (r := 12) (pc := 30) hx dX8_behind_30 f_X8_26 rfl rfl ?_
      refine dx_aload_n (pc := 33) hx dX8_behind_33 rfl ?_
      refine dx_getR (r := 1) (pc := 34) hx dX8_behind_34 f_X8_10 rfl rfl ?_
      obtain ⟨r37, h37, h⟩ := Option.bind_eq_some_iff.mp h
      refine dx_callViw (pc := 37) (As := [.ref 12, .ref 1]) (rest := []) hx dX8_behind_37 k_X8_114 rfl rfl rfl rfl (dc_le rfl) (dc_le rfl) (dc_le rfl) (dc_le rfl) rfl (th_X7_play_1 h37) ?_
      refine dx_istore_n (pc := 40) hx dX8_behind_40 (dc_le rfl) (ls' := [some (.ref 0), some (.int x1), some (.int x2), some (.int r37.1)]) rfl ?_
      refine dx_iload_n (pc := 41) hx dX8_behind_41 rfl ?_
      refine dx_if_eq (pc := 42) hx dX8_behind_42 (tgt := 47) (by decide) (fun c42 => ?_) (fun c42 => ?_)
      · replace h := (if_pos c42).symm.trans h
        refine dx_iload_n (pc := 47) hx dX8_behind_47 rfl ?_
        refine dx_if_ne (pc := 48) hx dX8_behind_48 (tgt := 63) (by decide) (fun c48 => ?_) (fun c48 => ?_)
        · replace h := (if_neg c48).symm.trans h
          refine dx_iload_n (pc := 63) hx dX8_behind_63 rfl ?_
          refine dx_iconst (pc := 64) hx dX8_behind_64 kc_1 ?_
          obtain ⟨q65, hr, h⟩ := Option.bind_eq_some_iff.mp h
          have hk : dc_X κ 91 [some (.ref 0), some (.int x1), some (.int x2), some (.int r37.1)] [.int q65] r37.2 := by
            clear hr
            refine dx_iload_n (pc := 91) hx dX8_behind_91 rfl ?_
            obtain ⟨r92, h92, h⟩ := Option.bind_eq_some_iff.mp h
            refine dx_callSir (pc := 92) (As := [.int q65, .int x1]) (rest := []) hx dX8_behind_92 k_X8_137 rfl (dc_le rfl) (dc_le rfl) (dc_le rfl) (dc_le rfl) rfl (th_X8_bit h92) ?_
            obtain rfl := Option.some.inj h
            exact dx_iret hO (pc := 95) dX8_behind_95 rfl ⟨_, rfl, rfl, rfl⟩
          replace h := hr
          clear hr
          refine dx_icmp_ne (pc := 65) hx dX8_behind_65 (tgt := 81) (by decide) (fun c65 => ?_) (fun c65 => ?_)
          · replace h := (if_neg c65).symm.trans h
            refine dx_aload_n (pc := 81) hx dX8_behind_81 rfl ?_
            refine dx_getR (r := 14) (pc := 82) hx dX8_behind_82 f_X8_33 rfl rfl ?_
            refine dx_getR (r := 15) (pc := 85) hx dX8_behind_85 f_X8_127 rfl rfl ?_
            refine dx_getI (pc := 88) hx dX8_behind_88 f_X8_134 rfl rfl ?_
            obtain rfl := Option.some.inj h
            exact hk
          · replace h := (if_pos c65).symm.trans h
            refine dx_aload_n (pc := 68) hx dX8_behind_68 rfl ?_
            refine dx_getR (r := 14) (pc := 69) hx dX8_behind_69 f_X8_33 rfl rfl ?_
            refine dx_getR (r := 15) (pc := 72) hx dX8_behind_72 f_X8_127 rfl rfl ?_
            refine dx_getI (pc := 75) hx dX8_behind_75 f_X8_131 rfl rfl ?_
            refine dx_goto (pc := 78) hx dX8_behind_78 (tgt := 91) (by decide) ?_
            obtain rfl := Option.some.inj h
            exact hk
        · replace h := (if_pos c48).symm.trans h
          refine dx_aload_n (pc := 51) hx dX8_behind_51 rfl ?_
          refine dx_getR (r := 14) (pc := 52) hx dX8_behind_52 f_X8_33 rfl rfl ?_
          refine dx_getR (r := 15) (pc := 55) hx dX8_behind_55 f_X8_127 rfl rfl ?_
          refine dx_iload_n (pc := 58) hx dX8_behind_58 rfl ?_
          obtain ⟨r59, h59, h⟩ := Option.bind_eq_some_iff.mp h
          refine dx_callVir (pc := 59) (As := [.int x1]) (rest := []) hx dX8_behind_59 k_X8_128 rfl rfl rfl rfl (dc_le rfl) (dc_le rfl) (dc_le rfl) (dc_le rfl) rfl (th_X0_debtOf_15 h59) ?_
          obtain rfl := Option.some.inj h
          exact dx_iret hO (pc := 62) dX8_behind_62 rfl ⟨_, rfl, rfl, rfl⟩
      · replace h := (if_neg c42).symm.trans h
        refine dx_iload_n (pc := 45) hx dX8_behind_45 rfl ?_
        obtain rfl := Option.some.inj h
        exact dx_iret hO (pc := 46) dX8_behind_46 rfl ⟨_, rfl, rfl, rfl⟩
    · replace h := (if_pos c19).symm.trans h
      refine dx_bipush (pc := 22) hx dX8_behind_22 kb_m2 ?_
      obtain rfl := Option.some.inj h
      exact dx_iret hO (pc := 24) dX8_behind_24 rfl ⟨_, rfl, rfl, rfl⟩
  · replace h := (if_pos c8).symm.trans h
    refine dx_iconst (pc := 11) hx dX8_behind_11 kc_m1 ?_
    obtain rfl := Option.some.inj h
    exact dx_iret hO (pc := 12) dX8_behind_12 rfl ⟨_, rfl, rfl, rfl⟩
set_option maxHeartbeats 4000000 in
set_option maxRecDepth 100000 in
theorem th_X8_owed {σ : dc_HP} {x1 : Int32} {r : Int32 × dc_HP} (h : fn_X8_owed σ x1 = some r) : dc_G mX8_owed [.ref 0, .int x1] σ (dc_qi (fun x τ => x = r.1 ∧ τ = r.2)) := by
  intro κ hO
  have hx : dc_Cx κ RX8 cX8_owed 3 6 139 := hO.1
  show dc_X κ 0 [some (.ref 0), some (.int x1), none] [] σ
  unfold fn_X8_owed at h
  refine dx_iload_n (pc := 0) hx dX8_owed_0 rfl ?_
  refine dx_iconst (pc := 1) hx dX8_owed_1 kc_0 ?_
  refine dx_iconst (pc := 2) hx dX8_owed_2 kc_1 ?_
  obtain ⟨r3, h3, h⟩ := Option.bind_eq_some_iff.mp h
  refine dx_callSir (pc := 3) (As := [.int x1, .int (nI 0), .int (nI 1)]) (rest := []) hx dX8_owed_3 k_X8_68 rfl (dc_le rfl) (dc_le rfl) (dc_le rfl) (dc_le rfl) rfl (th_X8_within h3) ?_
  refine dx_if_ne (pc := 6) hx dX8_owed_6 (tgt := 12) (by decide) (fun c6 => ?_) (fun c6 => ?_)
  · replace h := (if_neg c6).symm.trans h
    refine dx_aload_n (pc := 12) hx dX8_owed_12 rfl ?_
    refine dx_getR (r := 14) (pc := 13) hx dX8_owed_13 f_X8_33 rfl rfl ?_
    refine dx_aload_n (pc := 16) hx dX8_owed_16 rfl ?_
    refine dx_getR (r := 12) (pc := 17) hx dX8_owed_17 f_X8_26 rfl rfl ?_
    refine dx_aload_n (pc := 20) hx dX8_owed_20 rfl ?_
    refine dx_getR (r := 1) (pc := 21) hx dX8_owed_21 f_X8_10 rfl rfl ?_
    obtain ⟨r24, h24, h⟩ := Option.bind_eq_some_iff.mp h
    refine dx_callViw (pc := 24) (As := [.ref 12, .ref 1]) (rest := []) hx dX8_owed_24 k_X8_114 rfl rfl rfl rfl (dc_le rfl) (dc_le rfl) (dc_le rfl) (dc_le rfl) rfl (th_X7_play_1 h24) ?_
    refine dx_istore_n (pc := 27) hx dX8_owed_27 (dc_le rfl) (ls' := [some (.ref 0), some (.int x1), some (.int r24.1)]) rfl ?_
    refine dx_iload_n (pc := 28) hx dX8_owed_28 rfl ?_
    refine dx_if_eq (pc := 29) hx dX8_owed_29 (tgt := 34) (by decide) (fun c29 => ?_) (fun c29 => ?_)
    · replace h := (if_pos c29).symm.trans h
      refine dx_iload_n (pc := 34) hx dX8_owed_34 rfl ?_
      refine dx_if_ne (pc := 35) hx dX8_owed_35 (tgt := 51) (by decide) (fun c35 => ?_) (fun c35 => ?_)
      · replace h := (if_neg c35).symm.trans h
        refine dx_aload_n (pc := 51) hx dX8_owed_51 rfl ?_
        refine dx_getR (r := 14) (pc := 52) hx dX8_owed_52 f_X8_33 rfl rfl ?_
        refine dx_getR (r := 15) (pc := 55) hx dX8_owed_55 f_X8_127 rfl rfl ?_
        refine dx_getI (pc := 58) hx dX8_owed_58 f_X8_144 rfl rfl ?_
        obtain rfl := Option.some.inj h
        exact dx_iret hO (pc := 61) dX8_owed_61 rfl ⟨_, rfl, rfl, rfl⟩
      · replace h := (if_pos c35).symm.trans h
        refine dx_aload_n (pc := 38) hx dX8_owed_38 rfl ?_
        refine dx_getR (r := 14) (pc := 39) hx dX8_owed_39 f_X8_33 rfl rfl ?_
        refine dx_getR (r := 15) (pc := 42) hx dX8_owed_42 f_X8_127 rfl rfl ?_
        obtain ⟨r45, h45, h⟩ := Option.bind_eq_some_iff.mp h
        refine dx_callVir (pc := 45) (As := []) (rest := []) hx dX8_owed_45 k_X8_141 rfl rfl rfl rfl (dc_le rfl) (dc_le rfl) (dc_le rfl) (dc_le rfl) rfl (th_X0_allDebts_15 h45) ?_
        refine dx_goto (pc := 48) hx dX8_owed_48 (tgt := 61) (by decide) ?_
        obtain rfl := Option.some.inj h
        exact dx_iret hO (pc := 61) dX8_owed_61 rfl ⟨_, rfl, rfl, rfl⟩
    · replace h := (if_neg c29).symm.trans h
      refine dx_iload_n (pc := 32) hx dX8_owed_32 rfl ?_
      obtain rfl := Option.some.inj h
      exact dx_iret hO (pc := 33) dX8_owed_33 rfl ⟨_, rfl, rfl, rfl⟩
  · replace h := (if_pos c6).symm.trans h
    refine dx_bipush (pc := 9) hx dX8_owed_9 kb_m2 ?_
    obtain rfl := Option.some.inj h
    exact dx_iret hO (pc := 11) dX8_owed_11 rfl ⟨_, rfl, rfl, rfl⟩
set_option maxHeartbeats 4000000 in
set_option maxRecDepth 100000 in
theorem th_X8_freed {σ : dc_HP} {x1 : Int32} {r : Int32 × dc_HP} (h : fn_X8_freed σ x1 = some r) : dc_G mX8_freed [.ref 0, .int x1] σ (dc_qi (fun x τ => x = r.1 ∧ τ = r.2)) := by
  intro κ hO
  have hx : dc_Cx κ RX8 cX8_freed 3 6 139 := hO.1
  show dc_X κ 0 [some (.ref 0), some (.int x1), none] [] σ
  unfold fn_X8_freed at h
  refine dx_iload_n (pc := 0) hx dX8_freed_0 rfl ?_
  refine dx_iconst (pc := 1) hx dX8_freed_1 kc_0 ?_
  refine dx_iconst (pc := 2) hx dX8_freed_2 kc_1 ?_
  obtain ⟨r3, h3, h⟩ := Option.bind_eq_some_iff.mp h
  refine dx_callSir (pc := 3) (As := [.int x1, .int (nI 0), .int (nI 1)]) (rest := []) hx dX8_freed_3 k_X8_68 rfl (dc_le rfl) (dc_le rfl) (dc_le rfl) (dc_le rfl) rfl (th_X8_within h3) ?_
  refine dx_if_ne (pc := 6) hx dX8_freed_6 (tgt := 12) (by decide) (fun c6 => ?_) (fun c6 => ?_)
  · replace h := (if_neg c6).symm.trans h
    refine dx_aload_n (pc := 12) hx dX8_freed_12 rfl ?_
    refine dx_getR (r := 14) (pc := 13) hx dX8_freed_13 f_X8_33 rfl rfl ?_
    refine dx_aload_n (pc := 16) hx dX8_freed_16 rfl ?_
    refine dx_getR (r := 12) (pc := 17) hx dX8_freed_17 f_X8_26 rfl rfl ?_
    refine dx_aload_n (pc := 20) hx dX8_freed_20 rfl ?_
    refine dx_getR (r := 1) (pc := 21) hx dX8_freed_21 f_X8_10 rfl rfl ?_
    obtain ⟨r24, h24, h⟩ := Option.bind_eq_some_iff.mp h
    refine dx_callViw (pc := 24) (As := [.ref 12, .ref 1]) (rest := []) hx dX8_freed_24 k_X8_114 rfl rfl rfl rfl (dc_le rfl) (dc_le rfl) (dc_le rfl) (dc_le rfl) rfl (th_X7_play_1 h24) ?_
    refine dx_istore_n (pc := 27) hx dX8_freed_27 (dc_le rfl) (ls' := [some (.ref 0), some (.int x1), some (.int r24.1)]) rfl ?_
    refine dx_iload_n (pc := 28) hx dX8_freed_28 rfl ?_
    refine dx_if_eq (pc := 29) hx dX8_freed_29 (tgt := 34) (by decide) (fun c29 => ?_) (fun c29 => ?_)
    · replace h := (if_pos c29).symm.trans h
      refine dx_iload_n (pc := 34) hx dX8_freed_34 rfl ?_
      refine dx_if_ne (pc := 35) hx dX8_freed_35 (tgt := 48) (by decide) (fun c35 => ?_) (fun c35 => ?_)
      · replace h := (if_neg c35).symm.trans h
        refine dx_aload_n (pc := 48) hx dX8_freed_48 rfl ?_
        refine dx_getR (r := 14) (pc := 49) hx dX8_freed_49 f_X8_33 rfl rfl ?_
        refine dx_getI (pc := 52) hx dX8_freed_52 f_X8_150 rfl rfl ?_
        obtain rfl := Option.some.inj h
        exact dx_iret hO (pc := 55) dX8_freed_55 rfl ⟨_, rfl, rfl, rfl⟩
      · replace h := (if_pos c35).symm.trans h
        refine dx_aload_n (pc := 38) hx dX8_freed_38 rfl ?_
        refine dx_getR (r := 14) (pc := 39) hx dX8_freed_39 f_X8_33 rfl rfl ?_
        refine dx_getI (pc := 42) hx dX8_freed_42 f_X8_147 rfl rfl ?_
        refine dx_goto (pc := 45) hx dX8_freed_45 (tgt := 55) (by decide) ?_
        obtain rfl := Option.some.inj h
        exact dx_iret hO (pc := 55) dX8_freed_55 rfl ⟨_, rfl, rfl, rfl⟩
    · replace h := (if_neg c29).symm.trans h
      refine dx_iload_n (pc := 32) hx dX8_freed_32 rfl ?_
      obtain rfl := Option.some.inj h
      exact dx_iret hO (pc := 33) dX8_freed_33 rfl ⟨_, rfl, rfl, rfl⟩
  · replace h := (if_pos c6).symm.trans h
    refine dx_bipush (pc := 9) hx dX8_freed_9 kb_m2 ?_
    obtain rfl := Option.some.inj h
    exact dx_iret hO (pc := 11) dX8_freed_11 rfl ⟨_, rfl, rfl, rfl⟩
set_option maxHeartbeats 4000000 in
set_option maxRecDepth 100000 in
theorem th_X8_done {σ : dc_HP} {r : Int32 × dc_HP} (h : fn_X8_done σ = some r) : dc_G mX8_done [.ref 0] σ (dc_qi (fun x τ => x = r.1 ∧ τ = r.2)) := by
  intro κ hO
  have hx : dc_Cx κ RX8 cX8_done 2 6 139 := hO.1
  show dc_X κ 0 [some (.ref 0), none] [] σ
  unfold fn_X8_done at h
  refine dx_aload_n (pc := 0) hx dX8_done_0 rfl ?_
  refine dx_getR (r := 14) (pc := 1) hx dX8_done_1 f_X8_33 rfl rfl ?_
  refine dx_aload_n (pc := 4) hx dX8_done_4 rfl ?_
  refine dx_getR (r := 12) (pc := 5) hx dX8_done_5 f_X8_26 rfl rfl ?_
  refine dx_aload_n (pc := 8) hx dX8_done_8 rfl ?_
  refine dx_getR (r := 1) (pc := 9) hx dX8_done_9 f_X8_10 rfl rfl ?_
  obtain ⟨r12, h12, h⟩ := Option.bind_eq_some_iff.mp h
  refine dx_callViw (pc := 12) (As := [.ref 12, .ref 1]) (rest := []) hx dX8_done_12 k_X8_114 rfl rfl rfl rfl (dc_le rfl) (dc_le rfl) (dc_le rfl) (dc_le rfl) rfl (th_X7_play_1 h12) ?_
  refine dx_istore_n (pc := 15) hx dX8_done_15 (dc_le rfl) (ls' := [some (.ref 0), some (.int r12.1)]) rfl ?_
  refine dx_iload_n (pc := 16) hx dX8_done_16 rfl ?_
  refine dx_if_eq (pc := 17) hx dX8_done_17 (tgt := 22) (by decide) (fun c17 => ?_) (fun c17 => ?_)
  · replace h := (if_pos c17).symm.trans h
    refine dx_aload_n (pc := 22) hx dX8_done_22 rfl ?_
    refine dx_getR (r := 1) (pc := 23) hx dX8_done_23 f_X8_10 rfl rfl ?_
    refine dx_aload_n (pc := 26) hx dX8_done_26 rfl ?_
    refine dx_getR (r := 14) (pc := 27) hx dX8_done_27 f_X8_33 rfl rfl ?_
    refine dx_getR (r := 15) (pc := 30) hx dX8_done_30 f_X8_127 rfl rfl ?_
    obtain ⟨r33, h33, h⟩ := Option.bind_eq_some_iff.mp h
    refine dx_callVvw (pc := 33) (As := [.ref 15]) (rest := []) hx dX8_done_33 k_X8_153 rfl rfl rfl rfl (dc_le rfl) (dc_le rfl) (dc_le rfl) (dc_le rfl) rfl (th_X0_copyFrom_15_1 h33) ?_
    refine dx_aload_n (pc := 36) hx dX8_done_36 rfl ?_
    refine dx_getR (r := 12) (pc := 37) hx dX8_done_37 f_X8_26 rfl rfl ?_
    refine dx_iconst (pc := 40) hx dX8_done_40 kc_0 ?_
    refine dx_putI (pc := 41) hx dX8_done_41 f_X8_107 rfl rfl tyX4_ok rfl (Or.inl ⟨rfl, rfl⟩) ?_
    refine dx_nm (fun s41 e41 => ?_)
    replace h := dc_lt e41 h
    refine dx_aload_n (pc := 44) hx dX8_done_44 rfl ?_
    refine dx_getR (r := 14) (pc := 45) hx dX8_done_45 f_X8_33 rfl rfl ?_
    refine dx_getI (pc := 48) hx dX8_done_48 f_X8_157 rfl rfl ?_
    obtain rfl := Option.some.inj h
    exact dx_iret hO (pc := 51) dX8_done_51 rfl ⟨_, rfl, rfl, rfl⟩
  · replace h := (if_neg c17).symm.trans h
    refine dx_iload_n (pc := 20) hx dX8_done_20 rfl ?_
    obtain rfl := Option.some.inj h
    exact dx_iret hO (pc := 21) dX8_done_21 rfl ⟨_, rfl, rfl, rfl⟩
set_option maxHeartbeats 4000000 in
set_option maxRecDepth 100000 in
theorem tl_X8_may_L4 {κ : dc_KX} {Q : Option Value → dc_HP → Prop} (hO : dc_Ok κ mX8_may Q) (σ : dc_HP) : ∀ (n : Nat) (x1 : Int32) (x2 : Int32) (q : Int32), fn_X8_may_L4 σ n x1 x2 = some q → ∀ (hk : dc_X κ 33 [some (.ref 0), some (.int q), none] [] σ), dc_X κ 4 [some (.ref 0), some (.int x1), some (.int x2)] [] σ := by
  have hx : dc_Cx κ RX8 cX8_may 3 3 67 := hO.1
  intro n
  induction n with
  | zero =>
    intro x1 x2 q h
    cases h
  | succ n ih =>
    intro x1 x2 q h hk
    unfold fn_X8_may_L4 at h
    refine dx_iload_n (pc := 4) hx dX8_may_4 rfl ?_
    refine dx_bipush (pc := 5) hx dX8_may_5 kb_6 ?_
    refine dx_icmp_ge (pc := 7) hx dX8_may_7 (tgt := 33) (by decide) (fun c7 => ?_) (fun c7 => ?_)
    · replace h := (if_pos c7).symm.trans h
      obtain rfl := Option.some.inj h
      exact dx_wk [true, true, false] <| hk
    · replace h := (if_neg c7).symm.trans h
      refine dx_aload_n (pc := 10) hx dX8_may_10 rfl ?_
      refine dx_getR (r := 1) (pc := 11) hx dX8_may_11 f_X8_10 rfl rfl ?_
      refine dx_iload_n (pc := 14) hx dX8_may_14 rfl ?_
      obtain ⟨r15, h15, h⟩ := Option.bind_eq_some_iff.mp h
      refine dx_callVir (pc := 15) (As := [.int x2]) (rest := []) hx dX8_may_15 k_X8_160 rfl rfl rfl rfl (dc_le rfl) (dc_le rfl) (dc_le rfl) (dc_le rfl) rfl (th_X0_canBeSung_1 h15) ?_
      refine dx_if_eq (pc := 18) hx dX8_may_18 (tgt := 27) (by decide) (fun c18 => ?_) (fun c18 => ?_)
      · replace h := (if_pos c18).symm.trans h
        refine dx_iinc (pc := 27) hx dX8_may_27 rfl (v := x2 + nI 1) (congrArg (fun z => x2 + z) kc_1) (dc_le rfl) (ls' := [some (.ref 0), some (.int x1), some (.int (x2 + nI 1))]) rfl ?_
        refine dx_goto (pc := 30) hx dX8_may_30 (tgt := 4) (by decide) ?_
        exact (ih x1 (x2 + nI 1) q h hk)
      · replace h := (if_neg c18).symm.trans h
        refine dx_iload_n (pc := 21) hx dX8_may_21 rfl ?_
        refine dx_iconst (pc := 22) hx dX8_may_22 kc_1 ?_
        refine dx_iload_n (pc := 23) hx dX8_may_23 rfl ?_
        refine dx_ishl (pc := 24) hx dX8_may_24 ?_
        refine dx_ior (pc := 25) hx dX8_may_25 ?_
        refine dx_istore_n (pc := 26) hx dX8_may_26 (dc_le rfl) (ls' := [some (.ref 0), some (.int (x1 ||| ((nI 1) <<< (x2 &&& 31)))), some (.int x2)]) rfl ?_
        refine dx_iinc (pc := 27) hx dX8_may_27 rfl (v := x2 + nI 1) (congrArg (fun z => x2 + z) kc_1) (dc_le rfl) (ls' := [some (.ref 0), some (.int (x1 ||| ((nI 1) <<< (x2 &&& 31)))), some (.int (x2 + nI 1))]) rfl ?_
        refine dx_goto (pc := 30) hx dX8_may_30 (tgt := 4) (by decide) ?_
        exact (ih (x1 ||| ((nI 1) <<< (x2 &&& 31))) (x2 + nI 1) q h hk)
set_option maxHeartbeats 4000000 in
set_option maxRecDepth 100000 in
theorem th_X8_may {σ : dc_HP} {r : Int32} (h : fn_X8_may σ = some r) : dc_G mX8_may [.ref 0] σ (dc_qi (fun x τ => x = r ∧ τ = σ)) := by
  intro κ hO
  have hx : dc_Cx κ RX8 cX8_may 3 3 67 := hO.1
  show dc_X κ 0 [some (.ref 0), none, none] [] σ
  unfold fn_X8_may at h
  refine dx_iconst (pc := 0) hx dX8_may_0 kc_0 ?_
  refine dx_istore_n (pc := 1) hx dX8_may_1 (dc_le rfl) (ls' := [some (.ref 0), some (.int (nI 0)), none]) rfl ?_
  refine dx_iconst (pc := 2) hx dX8_may_2 kc_0 ?_
  refine dx_istore_n (pc := 3) hx dX8_may_3 (dc_le rfl) (ls' := [some (.ref 0), some (.int (nI 0)), some (.int (nI 0))]) rfl ?_
  obtain ⟨q4, h4, h⟩ := Option.bind_eq_some_iff.mp h
  refine (tl_X8_may_L4 hO σ  200 (nI 0) (nI 0) q4 h4 ?_)
  refine dx_iload_n (pc := 33) hx dX8_may_33 rfl ?_
  obtain rfl := Option.some.inj h
  exact dx_iret hO (pc := 34) dX8_may_34 rfl ⟨_, rfl, rfl, rfl⟩
set_option maxHeartbeats 4000000 in
set_option maxRecDepth 100000 in
theorem th_X8_nights {σ : dc_HP} {x1 : Int32} {x2 : Int32} {r : Int32 × dc_HP} (h : fn_X8_nights σ x1 x2 = some r) : dc_G mX8_nights [.ref 0, .int x1, .int x2] σ (dc_qi (fun x τ => x = r.1 ∧ τ = r.2)) := by
  intro κ hO
  have hx : dc_Cx κ RX8 cX8_nights 3 5 122 := hO.1
  show dc_X κ 0 [some (.ref 0), some (.int x1), some (.int x2)] [] σ
  unfold fn_X8_nights at h
  refine dx_aload_n (pc := 0) hx dX8_nights_0 rfl ?_
  refine dx_getR (r := 1) (pc := 1) hx dX8_nights_1 f_X8_10 rfl rfl ?_
  refine dx_iload_n (pc := 4) hx dX8_nights_4 rfl ?_
  obtain ⟨r5, h5, h⟩ := Option.bind_eq_some_iff.mp h
  refine dx_callVir (pc := 5) (As := [.int x1]) (rest := []) hx dX8_nights_5 k_X8_86 rfl rfl rfl rfl (dc_le rfl) (dc_le rfl) (dc_le rfl) (dc_le rfl) rfl (th_X0_has_1 h5) ?_
  refine dx_if_ne (pc := 8) hx dX8_nights_8 (tgt := 13) (by decide) (fun c8 => ?_) (fun c8 => ?_)
  · replace h := (if_neg c8).symm.trans h
    refine dx_iload_n (pc := 13) hx dX8_nights_13 rfl ?_
    refine dx_iconst (pc := 14) hx dX8_nights_14 kc_0 ?_
    refine dx_iconst (pc := 15) hx dX8_nights_15 kc_1 ?_
    obtain ⟨r16, h16, h⟩ := Option.bind_eq_some_iff.mp h
    refine dx_callSir (pc := 16) (As := [.int x2, .int (nI 0), .int (nI 1)]) (rest := []) hx dX8_nights_16 k_X8_68 rfl (dc_le rfl) (dc_le rfl) (dc_le rfl) (dc_le rfl) rfl (th_X8_within h16) ?_
    refine dx_if_ne (pc := 19) hx dX8_nights_19 (tgt := 25) (by decide) (fun c19 => ?_) (fun c19 => ?_)
    · replace h := (if_neg c19).symm.trans h
      refine dx_aload_n (pc := 25) hx dX8_nights_25 rfl ?_
      refine dx_getR (r := 21) (pc := 26) hx dX8_nights_26 f_X8_40 rfl rfl ?_
      refine dx_aload_n (pc := 29) hx dX8_nights_29 rfl ?_
      refine dx_getR (r := 1) (pc := 30) hx dX8_nights_30 f_X8_10 rfl rfl ?_
      refine dx_iload_n (pc := 33) hx dX8_nights_33 rfl ?_
      obtain ⟨r34, h34, h⟩ := Option.bind_eq_some_iff.mp h
      refine dx_callVvw (pc := 34) (As := [.ref 1, .int x1]) (rest := []) hx dX8_nights_34 k_X8_163 rfl rfl rfl rfl (dc_le rfl) (dc_le rfl) (dc_le rfl) (dc_le rfl) rfl (th_X3_find_1 h34) ?_
      refine dx_iload_n (pc := 37) hx dX8_nights_37 rfl ?_
      refine dx_if_ne (pc := 38) hx dX8_nights_38 (tgt := 51) (by decide) (fun c38 => ?_) (fun c38 => ?_)
      · replace h := (if_neg c38).symm.trans h
        refine dx_aload_n (pc := 51) hx dX8_nights_51 rfl ?_
        refine dx_getR (r := 21) (pc := 52) hx dX8_nights_52 f_X8_40 rfl rfl ?_
        refine dx_getI (pc := 55) hx dX8_nights_55 f_X8_170 rfl rfl ?_
        obtain rfl := Option.some.inj h
        exact dx_iret hO (pc := 58) dX8_nights_58 rfl ⟨_, rfl, rfl, rfl⟩
      · replace h := (if_pos c38).symm.trans h
        refine dx_aload_n (pc := 41) hx dX8_nights_41 rfl ?_
        refine dx_getR (r := 21) (pc := 42) hx dX8_nights_42 f_X8_40 rfl rfl ?_
        refine dx_getI (pc := 45) hx dX8_nights_45 f_X8_167 rfl rfl ?_
        refine dx_goto (pc := 48) hx dX8_nights_48 (tgt := 58) (by decide) ?_
        obtain rfl := Option.some.inj h
        exact dx_iret hO (pc := 58) dX8_nights_58 rfl ⟨_, rfl, rfl, rfl⟩
    · replace h := (if_pos c19).symm.trans h
      refine dx_bipush (pc := 22) hx dX8_nights_22 kb_m2 ?_
      obtain rfl := Option.some.inj h
      exact dx_iret hO (pc := 24) dX8_nights_24 rfl ⟨_, rfl, rfl, rfl⟩
  · replace h := (if_pos c8).symm.trans h
    refine dx_iconst (pc := 11) hx dX8_nights_11 kc_m1 ?_
    obtain rfl := Option.some.inj h
    exact dx_iret hO (pc := 12) dX8_nights_12 rfl ⟨_, rfl, rfl, rfl⟩
set_option maxHeartbeats 4000000 in
set_option maxRecDepth 100000 in
theorem tl_X8_programme_L30 {κ : dc_KX} {Q : Option Value → dc_HP → Prop} (hO : dc_Ok κ mX8_programme Q) (σ : dc_HP) (x1 : Int32) (x2 : Int32) : ∀ (n : Nat) (x3 : Int32) (x4 : Int32) (x5 : Int32) (q : Int32 × Int32), fn_X8_programme_L30 σ x1 x2 n x3 x4 x5 = some q → ∀ (hk : dc_X κ 80 [some (.ref 0), some (.int x1), some (.int x2), some (.int q.1), some (.int q.2), none, none] [] σ), dc_X κ 30 [some (.ref 0), some (.int x1), some (.int x2), some (.int x3), some (.int x4), some (.int x5), none] [] σ := by
  have hx : dc_Cx κ RX8 cX8_programme 7 4 88 := hO.1
  intro n
  induction n with
  | zero =>
    intro x3 x4 x5 q h
    cases h
  | succ n ih =>
    intro x3 x4 x5 q h hk
    unfold fn_X8_programme_L30 at h
    refine dx_iload (pc := 30) hx dX8_programme_30 rfl ?_
    refine dx_bipush (pc := 32) hx dX8_programme_32 kb_64 ?_
    refine dx_icmp_ge (pc := 34) hx dX8_programme_34 (tgt := 80) (by decide) (fun c34 => ?_) (fun c34 => ?_)
    · replace h := (if_pos c34).symm.trans h
      obtain rfl := Option.some.inj h
      exact dx_wk [true, true, true, true, true, false, true] <| hk
    · replace h := (if_neg c34).symm.trans h
      refine dx_aload_n (pc := 37) hx dX8_programme_37 rfl ?_
      refine dx_getR (r := 1) (pc := 38) hx dX8_programme_38 f_X8_10 rfl rfl ?_
      refine dx_iload (pc := 41) hx dX8_programme_41 rfl ?_
      obtain ⟨r43, h43, h⟩ := Option.bind_eq_some_iff.mp h
      refine dx_callVir (pc := 43) (As := [.int x5]) (rest := []) hx dX8_programme_43 k_X8_173 rfl rfl rfl rfl (dc_le rfl) (dc_le rfl) (dc_le rfl) (dc_le rfl) rfl (th_X0_payOfSet_1 h43) ?_
      refine dx_istore (pc := 46) hx dX8_programme_46 (dc_le rfl) (ls' := [some (.ref 0), some (.int x1), some (.int x2), some (.int x3), some (.int x4), some (.int x5), some (.int r43)]) rfl ?_
      refine dx_aload_n (pc := 48) hx dX8_programme_48 rfl ?_
      refine dx_getR (r := 1) (pc := 49) hx dX8_programme_49 f_X8_10 rfl rfl ?_
      refine dx_iload (pc := 52) hx dX8_programme_52 rfl ?_
      obtain ⟨r54, h54, h⟩ := Option.bind_eq_some_iff.mp h
      refine dx_callVir (pc := 54) (As := [.int x5]) (rest := []) hx dX8_programme_54 k_X8_176 rfl rfl rfl rfl (dc_le rfl) (dc_le rfl) (dc_le rfl) (dc_le rfl) rfl (th_X0_barsOfSet_1 h54) ?_
      refine dx_iload_n (pc := 57) hx dX8_programme_57 rfl ?_
      refine dx_icmp_gt (pc := 58) hx dX8_programme_58 (tgt := 74) (by decide) (fun c58 => ?_) (fun c58 => ?_)
      · replace h := (if_pos c58).symm.trans h
        refine dx_iinc (pc := 74) hx dX8_programme_74 rfl (v := x5 + nI 1) (congrArg (fun z => x5 + z) kc_1) (dc_le rfl) (ls' := [some (.ref 0), some (.int x1), some (.int x2), some (.int x3), some (.int x4), some (.int (x5 + nI 1)), some (.int r43)]) rfl ?_
        refine dx_goto (pc := 77) hx dX8_programme_77 (tgt := 30) (by decide) ?_
        exact dx_wk [true, true, true, true, true, true, false] <| (ih x3 x4 (x5 + nI 1) q h hk)
      · replace h := (if_neg c58).symm.trans h
        refine dx_iload (pc := 61) hx dX8_programme_61 rfl ?_
        refine dx_iload_n (pc := 63) hx dX8_programme_63 rfl ?_
        refine dx_icmp_le (pc := 64) hx dX8_programme_64 (tgt := 74) (by decide) (fun c64 => ?_) (fun c64 => ?_)
        · replace h := (if_pos c64).symm.trans h
          refine dx_iinc (pc := 74) hx dX8_programme_74 rfl (v := x5 + nI 1) (congrArg (fun z => x5 + z) kc_1) (dc_le rfl) (ls' := [some (.ref 0), some (.int x1), some (.int x2), some (.int x3), some (.int x4), some (.int (x5 + nI 1)), some (.int r43)]) rfl ?_
          refine dx_goto (pc := 77) hx dX8_programme_77 (tgt := 30) (by decide) ?_
          exact dx_wk [true, true, true, true, true, true, false] <| (ih x3 x4 (x5 + nI 1) q h hk)
        · replace h := (if_neg c64).symm.trans h
          refine dx_iload (pc := 67) hx dX8_programme_67 rfl ?_
          refine dx_istore_n (pc := 69) hx dX8_programme_69 (dc_le rfl) (ls' := [some (.ref 0), some (.int x1), some (.int x2), some (.int r43), some (.int x4), some (.int x5), some (.int r43)]) rfl ?_
          refine dx_iload (pc := 70) hx dX8_programme_70 rfl ?_
          refine dx_istore (pc := 72) hx dX8_programme_72 (dc_le rfl) (ls' := [some (.ref 0), some (.int x1), some (.int x2), some (.int r43), some (.int x5), some (.int x5), some (.int r43)]) rfl ?_
          refine dx_iinc (pc := 74) hx dX8_programme_74 rfl (v := x5 + nI 1) (congrArg (fun z => x5 + z) kc_1) (dc_le rfl) (ls' := [some (.ref 0), some (.int x1), some (.int x2), some (.int r43), some (.int x5), some (.int (x5 + nI 1)), some (.int r43)]) rfl ?_
          refine dx_goto (pc := 77) hx dX8_programme_77 (tgt := 30) (by decide) ?_
          exact dx_wk [true, true, true, true, true, true, false] <| (ih r43 x5 (x5 + nI 1) q h hk)
set_option maxHeartbeats 4000000 in
set_option maxRecDepth 100000 in
theorem th_X8_programme {σ : dc_HP} {x1 : Int32} {x2 : Int32} {r : Int32} (h : fn_X8_programme σ x1 x2 = some r) : dc_G mX8_programme [.ref 0, .int x1, .int x2] σ (dc_qi (fun x τ => x = r ∧ τ = σ)) := by
  intro κ hO
  have hx : dc_Cx κ RX8 cX8_programme 7 4 88 := hO.1
  show dc_X κ 0 [some (.ref 0), some (.int x1), some (.int x2), none, none, none, none] [] σ
  unfold fn_X8_programme at h
  refine dx_iload_n (pc := 0) hx dX8_programme_0 rfl ?_
  refine dx_iconst (pc := 1) hx dX8_programme_1 kc_0 ?_
  refine dx_bipush (pc := 2) hx dX8_programme_2 kb_99 ?_
  obtain ⟨r4, h4, h⟩ := Option.bind_eq_some_iff.mp h
  refine dx_callSir (pc := 4) (As := [.int x1, .int (nI 0), .int (nI 99)]) (rest := []) hx dX8_programme_4 k_X8_68 rfl (dc_le rfl) (dc_le rfl) (dc_le rfl) (dc_le rfl) rfl (th_X8_within h4) ?_
  refine dx_if_eq (pc := 7) hx dX8_programme_7 (tgt := 19) (by decide) (fun c7 => ?_) (fun c7 => ?_)
  · replace h := (if_pos c7).symm.trans h
    refine dx_bipush (pc := 19) hx dX8_programme_19 kb_m2 ?_
    obtain rfl := Option.some.inj h
    exact dx_iret hO (pc := 21) dX8_programme_21 rfl ⟨_, rfl, rfl, rfl⟩
  · replace h := (if_neg c7).symm.trans h
    refine dx_iload_n (pc := 10) hx dX8_programme_10 rfl ?_
    refine dx_iconst (pc := 11) hx dX8_programme_11 kc_0 ?_
    refine dx_iconst (pc := 12) hx dX8_programme_12 kc_1 ?_
    obtain ⟨r13, h13, h⟩ := Option.bind_eq_some_iff.mp h
    refine dx_callSir (pc := 13) (As := [.int x2, .int (nI 0), .int (nI 1)]) (rest := []) hx dX8_programme_13 k_X8_68 rfl (dc_le rfl) (dc_le rfl) (dc_le rfl) (dc_le rfl) rfl (th_X8_within h13) ?_
    refine dx_if_ne (pc := 16) hx dX8_programme_16 (tgt := 22) (by decide) (fun c16 => ?_) (fun c16 => ?_)
    · replace h := (if_neg c16).symm.trans h
      refine dx_iconst (pc := 22) hx dX8_programme_22 kc_0 ?_
      refine dx_istore_n (pc := 23) hx dX8_programme_23 (dc_le rfl) (ls' := [some (.ref 0), some (.int x1), some (.int x2), some (.int (nI 0)), none, none, none]) rfl ?_
      refine dx_iconst (pc := 24) hx dX8_programme_24 kc_0 ?_
      refine dx_istore (pc := 25) hx dX8_programme_25 (dc_le rfl) (ls' := [some (.ref 0), some (.int x1), some (.int x2), some (.int (nI 0)), some (.int (nI 0)), none, none]) rfl ?_
      refine dx_iconst (pc := 27) hx dX8_programme_27 kc_0 ?_
      refine dx_istore (pc := 28) hx dX8_programme_28 (dc_le rfl) (ls' := [some (.ref 0), some (.int x1), some (.int x2), some (.int (nI 0)), some (.int (nI 0)), some (.int (nI 0)), none]) rfl ?_
      obtain ⟨q30, h30, h⟩ := Option.bind_eq_some_iff.mp h
      refine (tl_X8_programme_L30 hO σ x1 x2 200 (nI 0) (nI 0) (nI 0) q30 h30 ?_)
      refine dx_iload_n (pc := 80) hx dX8_programme_80 rfl ?_
      refine dx_if_ne (pc := 81) hx dX8_programme_81 (tgt := 88) (by decide) (fun c81 => ?_) (fun c81 => ?_)
      · replace h := (if_neg c81).symm.trans h
        refine dx_iload (pc := 88) hx dX8_programme_88 rfl ?_
        obtain rfl := Option.some.inj h
        exact dx_iret hO (pc := 90) dX8_programme_90 rfl ⟨_, rfl, rfl, rfl⟩
      · replace h := (if_pos c81).symm.trans h
        refine dx_iload_n (pc := 84) hx dX8_programme_84 rfl ?_
        refine dx_goto (pc := 85) hx dX8_programme_85 (tgt := 90) (by decide) ?_
        obtain rfl := Option.some.inj h
        exact dx_iret hO (pc := 90) dX8_programme_90 rfl ⟨_, rfl, rfl, rfl⟩
    · replace h := (if_pos c16).symm.trans h
      refine dx_bipush (pc := 19) hx dX8_programme_19 kb_m2 ?_
      obtain rfl := Option.some.inj h
      exact dx_iret hO (pc := 21) dX8_programme_21 rfl ⟨_, rfl, rfl, rfl⟩
set_option maxHeartbeats 4000000 in
set_option maxRecDepth 100000 in
theorem tl_X8_ruin_L28 {κ : dc_KX} {Q : Option Value → dc_HP → Prop} (hO : dc_Ok κ mX8_ruin Q) (σ : dc_HP) (x1 : Int32) (x2 : Int32) : ∀ (n : Nat) (x3 : Int32) (x4 : Int32) (q : (Int32) ⊕ (Int32)), fn_X8_ruin_L28 σ x1 x2 n x3 x4 = some q → ∀ (hk : ∀ m : Int32, q = .inr m → dc_X κ 96 [some (.ref 0), some (.int x1), some (.int x2), some (.int m), none, none, none] [] σ) (hr : ∀ r : Int32, q = .inl r → Q (some (.int r)) σ), dc_X κ 28 [some (.ref 0), some (.int x1), some (.int x2), some (.int x3), some (.int x4), none, none] [] σ := by
  have hx : dc_Cx κ RX8 cX8_ruin 7 2 48 := hO.1
  intro n
  induction n with
  | zero =>
    intro x3 x4 q h
    cases h
  | succ n ih =>
    intro x3 x4 q h hk hr
    unfold fn_X8_ruin_L28 at h
    refine dx_iload (pc := 28) hx dX8_ruin_28 rfl ?_
    refine dx_iconst (pc := 30) hx dX8_ruin_30 kc_4 ?_
    refine dx_icmp_ge (pc := 31) hx dX8_ruin_31 (tgt := 96) (by decide) (fun c31 => ?_) (fun c31 => ?_)
    · replace h := (if_pos c31).symm.trans h
      obtain rfl := Option.some.inj h
      exact dx_wk [true, true, true, true, false, true, true] <| (hk x3 rfl)
    · replace h := (if_neg c31).symm.trans h
      refine dx_aload_n (pc := 34) hx dX8_ruin_34 rfl ?_
      refine dx_getR (r := 1) (pc := 35) hx dX8_ruin_35 f_X8_10 rfl rfl ?_
      refine dx_iload_n (pc := 38) hx dX8_ruin_38 rfl ?_
      refine dx_iload (pc := 39) hx dX8_ruin_39 rfl ?_
      obtain ⟨r41, h41, h⟩ := Option.bind_eq_some_iff.mp h
      refine dx_callVir (pc := 41) (As := [.int x1, .int x4]) (rest := []) hx dX8_ruin_41 k_X8_179 rfl rfl rfl rfl (dc_le rfl) (dc_le rfl) (dc_le rfl) (dc_le rfl) rfl (th_X0_needOf_1 h41) ?_
      refine dx_aload_n (pc := 44) hx dX8_ruin_44 rfl ?_
      refine dx_getR (r := 1) (pc := 45) hx dX8_ruin_45 f_X8_10 rfl rfl ?_
      refine dx_iload (pc := 48) hx dX8_ruin_48 rfl ?_
      obtain ⟨r50, h50, h⟩ := Option.bind_eq_some_iff.mp h
      refine dx_callVir (pc := 50) (As := [.int x4]) (rest := [.int r41]) hx dX8_ruin_50 k_X8_182 rfl rfl rfl rfl (dc_le rfl) (dc_le rfl) (dc_le rfl) (dc_le rfl) rfl (th_X0_readyIn_1 h50) ?_
      obtain ⟨r53, h53, h⟩ := Option.bind_eq_some_iff.mp h
      refine dx_callSir (pc := 53) (As := [.int r50]) (rest := [.int r41]) hx dX8_ruin_53 k_X8_80 rfl (dc_le rfl) (dc_le rfl) (dc_le rfl) (dc_le rfl) rfl (th_J6_bitCount_0f7a4 h53) ?_
      refine dx_isub (pc := 56) hx dX8_ruin_56 ?_
      refine dx_istore (pc := 57) hx dX8_ruin_57 (dc_le rfl) (ls' := [some (.ref 0), some (.int x1), some (.int x2), some (.int x3), some (.int x4), some (.int (r41 - r53)), none]) rfl ?_
      refine dx_aload_n (pc := 59) hx dX8_ruin_59 rfl ?_
      refine dx_getR (r := 1) (pc := 60) hx dX8_ruin_60 f_X8_10 rfl rfl ?_
      refine dx_iload (pc := 63) hx dX8_ruin_63 rfl ?_
      refine dx_iload (pc := 65) hx dX8_ruin_65 rfl ?_
      obtain ⟨r67, h67, h⟩ := Option.bind_eq_some_iff.mp h
      refine dx_callVir (pc := 67) (As := [.int x4, .int (r41 - r53)]) (rest := []) hx dX8_ruin_67 k_X8_185 rfl rfl rfl rfl (dc_le rfl) (dc_le rfl) (dc_le rfl) (dc_le rfl) rfl (th_X0_leastFree_1 h67) ?_
      refine dx_istore (pc := 70) hx dX8_ruin_70 (dc_le rfl) (ls' := [some (.ref 0), some (.int x1), some (.int x2), some (.int x3), some (.int x4), some (.int (r41 - r53)), some (.int r67)]) rfl ?_
      refine dx_iload (pc := 72) hx dX8_ruin_72 rfl ?_
      obtain ⟨r74, h74, h⟩ := Option.bind_eq_some_iff.mp h
      refine dx_callSir (pc := 74) (As := [.int r67]) (rest := []) hx dX8_ruin_74 k_X8_80 rfl (dc_le rfl) (dc_le rfl) (dc_le rfl) (dc_le rfl) rfl (th_J6_bitCount_0f7a4 h74) ?_
      refine dx_iload (pc := 77) hx dX8_ruin_77 rfl ?_
      refine dx_icmp_ge (pc := 79) hx dX8_ruin_79 (tgt := 85) (by decide) (fun c79 => ?_) (fun c79 => ?_)
      · replace h := (if_pos c79).symm.trans h
        refine dx_iload_n (pc := 85) hx dX8_ruin_85 rfl ?_
        refine dx_iload (pc := 86) hx dX8_ruin_86 rfl ?_
        refine dx_ior (pc := 88) hx dX8_ruin_88 ?_
        refine dx_istore_n (pc := 89) hx dX8_ruin_89 (dc_le rfl) (ls' := [some (.ref 0), some (.int x1), some (.int x2), some (.int (x3 ||| r67)), some (.int x4), some (.int (r41 - r53)), some (.int r67)]) rfl ?_
        refine dx_iinc (pc := 90) hx dX8_ruin_90 rfl (v := x4 + nI 1) (congrArg (fun z => x4 + z) kc_1) (dc_le rfl) (ls' := [some (.ref 0), some (.int x1), some (.int x2), some (.int (x3 ||| r67)), some (.int (x4 + nI 1)), some (.int (r41 - r53)), some (.int r67)]) rfl ?_
        refine dx_goto (pc := 93) hx dX8_ruin_93 (tgt := 28) (by decide) ?_
        exact dx_wk [true, true, true, true, true, false, false] <| (ih (x3 ||| r67) (x4 + nI 1) q h hk hr)
      · replace h := (if_neg c79).symm.trans h
        refine dx_bipush (pc := 82) hx dX8_ruin_82 kb_m6 ?_
        obtain rfl := Option.some.inj h
        exact dx_iret hO (pc := 84) dX8_ruin_84 rfl (hr ((-6 : Int32)) rfl)
set_option maxHeartbeats 4000000 in
set_option maxRecDepth 100000 in
theorem th_X8_ruin {σ : dc_HP} {x1 : Int32} {x2 : Int32} {r : Int32} (h : fn_X8_ruin σ x1 x2 = some r) : dc_G mX8_ruin [.ref 0, .int x1, .int x2] σ (dc_qi (fun x τ => x = r ∧ τ = σ)) := by
  intro κ hO
  have hx : dc_Cx κ RX8 cX8_ruin 7 2 48 := hO.1
  show dc_X κ 0 [some (.ref 0), some (.int x1), some (.int x2), none, none, none, none] [] σ
  unfold fn_X8_ruin at h
  refine dx_iload_n (pc := 0) hx dX8_ruin_0 rfl ?_
  refine dx_iconst (pc := 1) hx dX8_ruin_1 kc_0 ?_
  refine dx_iconst (pc := 2) hx dX8_ruin_2 kc_5 ?_
  obtain ⟨r3, h3, h⟩ := Option.bind_eq_some_iff.mp h
  refine dx_callSir (pc := 3) (As := [.int x1, .int (nI 0), .int (nI 5)]) (rest := []) hx dX8_ruin_3 k_X8_68 rfl (dc_le rfl) (dc_le rfl) (dc_le rfl) (dc_le rfl) rfl (th_X8_within h3) ?_
  refine dx_if_ne (pc := 6) hx dX8_ruin_6 (tgt := 11) (by decide) (fun c6 => ?_) (fun c6 => ?_)
  · replace h := (if_neg c6).symm.trans h
    refine dx_iload_n (pc := 11) hx dX8_ruin_11 rfl ?_
    refine dx_iconst (pc := 12) hx dX8_ruin_12 kc_0 ?_
    refine dx_iconst (pc := 13) hx dX8_ruin_13 kc_1 ?_
    obtain ⟨r14, h14, h⟩ := Option.bind_eq_some_iff.mp h
    refine dx_callSir (pc := 14) (As := [.int x2, .int (nI 0), .int (nI 1)]) (rest := []) hx dX8_ruin_14 k_X8_68 rfl (dc_le rfl) (dc_le rfl) (dc_le rfl) (dc_le rfl) rfl (th_X8_within h14) ?_
    refine dx_if_ne (pc := 17) hx dX8_ruin_17 (tgt := 23) (by decide) (fun c17 => ?_) (fun c17 => ?_)
    · replace h := (if_neg c17).symm.trans h
      refine dx_iconst (pc := 23) hx dX8_ruin_23 kc_0 ?_
      refine dx_istore_n (pc := 24) hx dX8_ruin_24 (dc_le rfl) (ls' := [some (.ref 0), some (.int x1), some (.int x2), some (.int (nI 0)), none, none, none]) rfl ?_
      refine dx_iconst (pc := 25) hx dX8_ruin_25 kc_0 ?_
      refine dx_istore (pc := 26) hx dX8_ruin_26 (dc_le rfl) (ls' := [some (.ref 0), some (.int x1), some (.int x2), some (.int (nI 0)), some (.int (nI 0)), none, none]) rfl ?_
      obtain ⟨q9, h28, h⟩ := Option.bind_eq_some_iff.mp h
      refine (tl_X8_ruin_L28 hO σ x1 x2 200 (nI 0) (nI 0) q9 h28 (fun q28 e9 => ?_) (fun r9 e9 => ?_))
      rotate_left
      · subst e9
        obtain rfl := Option.some.inj h
        exact ⟨_, rfl, rfl, rfl⟩
      subst e9
      replace h := dc_inr h
      refine dx_iload_n (pc := 96) hx dX8_ruin_96 rfl ?_
      refine dx_if_ne (pc := 97) hx dX8_ruin_97 (tgt := 107) (by decide) (fun c97 => ?_) (fun c97 => ?_)
      · replace h := (if_neg c97).symm.trans h
        refine dx_iload_n (pc := 107) hx dX8_ruin_107 rfl ?_
        obtain rfl := Option.some.inj h
        exact dx_iret hO (pc := 108) dX8_ruin_108 rfl ⟨_, rfl, rfl, rfl⟩
      · replace h := (if_pos c97).symm.trans h
        refine dx_iload_n (pc := 100) hx dX8_ruin_100 rfl ?_
        obtain ⟨r101, h101, h⟩ := Option.bind_eq_some_iff.mp h
        refine dx_callSir (pc := 101) (As := [.int q28]) (rest := []) hx dX8_ruin_101 k_X8_80 rfl (dc_le rfl) (dc_le rfl) (dc_le rfl) (dc_le rfl) rfl (th_J6_bitCount_0f7a4 h101) ?_
        refine dx_goto (pc := 104) hx dX8_ruin_104 (tgt := 108) (by decide) ?_
        obtain rfl := Option.some.inj h
        exact dx_iret hO (pc := 108) dX8_ruin_108 rfl ⟨_, rfl, rfl, rfl⟩
    · replace h := (if_pos c17).symm.trans h
      refine dx_bipush (pc := 20) hx dX8_ruin_20 kb_m2 ?_
      obtain rfl := Option.some.inj h
      exact dx_iret hO (pc := 22) dX8_ruin_22 rfl ⟨_, rfl, rfl, rfl⟩
  · replace h := (if_pos c6).symm.trans h
    refine dx_iconst (pc := 9) hx dX8_ruin_9 kc_m1 ?_
    obtain rfl := Option.some.inj h
    exact dx_iret hO (pc := 10) dX8_ruin_10 rfl ⟨_, rfl, rfl, rfl⟩
set_option maxHeartbeats 4000000 in
set_option maxRecDepth 100000 in
theorem tl_X8_seats_L41 {κ : dc_KX} {Q : Option Value → dc_HP → Prop} (hO : dc_Ok κ mX8_seats Q) (σ : dc_HP) (x1 : Int32) (x2 : Int32) (x3 : Int32) : ∀ (n : Nat) (x4 : Int32) (x5 : Int32) (x6 : Int32) (q : Int32 × Int32), fn_X8_seats_L41 x1 x2 x3 n x4 x5 x6 = some q → ∀ (hk : dc_X κ 96 [some (.ref 0), some (.int x1), some (.int x2), some (.int x3), some (.int q.1), some (.int q.2), none, none] [] σ), dc_X κ 41 [some (.ref 0), some (.int x1), some (.int x2), some (.int x3), some (.int x4), some (.int x5), some (.int x6), none] [] σ := by
  have hx : dc_Cx κ RX8 cX8_seats 8 2 48 := hO.1
  intro n
  induction n with
  | zero =>
    intro x4 x5 x6 q h
    cases h
  | succ n ih =>
    intro x4 x5 x6 q h hk
    unfold fn_X8_seats_L41 at h
    refine dx_iload (pc := 41) hx dX8_seats_41 rfl ?_
    refine dx_bipush (pc := 43) hx dX8_seats_43 kb_6 ?_
    refine dx_icmp_ge (pc := 45) hx dX8_seats_45 (tgt := 96) (by decide) (fun c45 => ?_) (fun c45 => ?_)
    · replace h := (if_pos c45).symm.trans h
      obtain rfl := Option.some.inj h
      exact dx_wk [true, true, true, true, true, true, false, true] <| hk
    · replace h := (if_neg c45).symm.trans h
      refine dx_iload_n (pc := 48) hx dX8_seats_48 rfl ?_
      refine dx_iload (pc := 49) hx dX8_seats_49 rfl ?_
      obtain ⟨r51, h51, h⟩ := Option.bind_eq_some_iff.mp h
      refine dx_callSir (pc := 51) (As := [.int x2, .int x6]) (rest := []) hx dX8_seats_51 k_X8_189 rfl (dc_le rfl) (dc_le rfl) (dc_le rfl) (dc_le rfl) rfl (th_X8_placeOfBid h51) ?_
      refine dx_istore (pc := 54) hx dX8_seats_54 (dc_le rfl) (ls' := [some (.ref 0), some (.int x1), some (.int x2), some (.int x3), some (.int x4), some (.int x5), some (.int x6), some (.int r51)]) rfl ?_
      refine dx_iload (pc := 56) hx dX8_seats_56 rfl ?_
      refine dx_iload_n (pc := 58) hx dX8_seats_58 rfl ?_
      refine dx_icmp_ge (pc := 59) hx dX8_seats_59 (tgt := 74) (by decide) (fun c59 => ?_) (fun c59 => ?_)
      · replace h := (if_pos c59).symm.trans h
        refine dx_iload (pc := 74) hx dX8_seats_74 rfl ?_
        refine dx_iload_n (pc := 76) hx dX8_seats_76 rfl ?_
        refine dx_icmp_ne (pc := 77) hx dX8_seats_77 (tgt := 90) (by decide) (fun c77 => ?_) (fun c77 => ?_)
        · replace h := (if_neg c77).symm.trans h
          refine dx_iinc (pc := 90) hx dX8_seats_90 rfl (v := x6 + nI 1) (congrArg (fun z => x6 + z) kc_1) (dc_le rfl) (ls' := [some (.ref 0), some (.int x1), some (.int x2), some (.int x3), some (.int x4), some (.int x5), some (.int (x6 + nI 1)), some (.int r51)]) rfl ?_
          refine dx_goto (pc := 93) hx dX8_seats_93 (tgt := 41) (by decide) ?_
          exact dx_wk [true, true, true, true, true, true, true, false] <| (ih x4 x5 (x6 + nI 1) q h hk)
        · replace h := (if_pos c77).symm.trans h
          refine dx_iload_n (pc := 80) hx dX8_seats_80 rfl ?_
          refine dx_iconst (pc := 81) hx dX8_seats_81 kc_5 ?_
          refine dx_iload (pc := 82) hx dX8_seats_82 rfl ?_
          refine dx_isub (pc := 84) hx dX8_seats_84 ?_
          obtain ⟨r85, h85, h⟩ := Option.bind_eq_some_iff.mp h
          refine dx_callSir (pc := 85) (As := [.int x2, .int ((nI 5) - x6)]) (rest := []) hx dX8_seats_85 k_X8_192 rfl (dc_le rfl) (dc_le rfl) (dc_le rfl) (dc_le rfl) rfl (th_X8_digitOf h85) ?_
          refine dx_istore (pc := 88) hx dX8_seats_88 (dc_le rfl) (ls' := [some (.ref 0), some (.int x1), some (.int x2), some (.int x3), some (.int x4), some (.int r85), some (.int x6), some (.int r51)]) rfl ?_
          refine dx_iinc (pc := 90) hx dX8_seats_90 rfl (v := x6 + nI 1) (congrArg (fun z => x6 + z) kc_1) (dc_le rfl) (ls' := [some (.ref 0), some (.int x1), some (.int x2), some (.int x3), some (.int x4), some (.int r85), some (.int (x6 + nI 1)), some (.int r51)]) rfl ?_
          refine dx_goto (pc := 93) hx dX8_seats_93 (tgt := 41) (by decide) ?_
          exact dx_wk [true, true, true, true, true, true, true, false] <| (ih x4 r85 (x6 + nI 1) q h hk)
      · replace h := (if_neg c59).symm.trans h
        refine dx_iload (pc := 62) hx dX8_seats_62 rfl ?_
        refine dx_iconst (pc := 64) hx dX8_seats_64 kc_1 ?_
        refine dx_iload (pc := 65) hx dX8_seats_65 rfl ?_
        refine dx_ishl (pc := 67) hx dX8_seats_67 ?_
        refine dx_ior (pc := 68) hx dX8_seats_68 ?_
        refine dx_istore (pc := 69) hx dX8_seats_69 (dc_le rfl) (ls' := [some (.ref 0), some (.int x1), some (.int x2), some (.int x3), some (.int (x4 ||| ((nI 1) <<< (x6 &&& 31)))), some (.int x5), some (.int x6), some (.int r51)]) rfl ?_
        refine dx_goto (pc := 71) hx dX8_seats_71 (tgt := 90) (by decide) ?_
        refine dx_iinc (pc := 90) hx dX8_seats_90 rfl (v := x6 + nI 1) (congrArg (fun z => x6 + z) kc_1) (dc_le rfl) (ls' := [some (.ref 0), some (.int x1), some (.int x2), some (.int x3), some (.int (x4 ||| ((nI 1) <<< (x6 &&& 31)))), some (.int x5), some (.int (x6 + nI 1)), some (.int r51)]) rfl ?_
        refine dx_goto (pc := 93) hx dX8_seats_93 (tgt := 41) (by decide) ?_
        exact dx_wk [true, true, true, true, true, true, true, false] <| (ih (x4 ||| ((nI 1) <<< (x6 &&& 31))) x5 (x6 + nI 1) q h hk)
set_option maxHeartbeats 4000000 in
set_option maxRecDepth 100000 in
theorem th_X8_seats {σ : dc_HP} {x1 : Int32} {x2 : Int32} {x3 : Int32} {r : Int32} (h : fn_X8_seats x1 x2 x3 = some r) : dc_G mX8_seats [.ref 0, .int x1, .int x2, .int x3] σ (dc_qi (fun x τ => x = r ∧ τ = σ)) := by
  intro κ hO
  have hx : dc_Cx κ RX8 cX8_seats 8 2 48 := hO.1
  show dc_X κ 0 [some (.ref 0), some (.int x1), some (.int x2), some (.int x3), none, none, none, none] [] σ
  unfold fn_X8_seats at h
  refine dx_iload_n (pc := 0) hx dX8_seats_0 rfl ?_
  refine dx_iconst (pc := 1) hx dX8_seats_1 kc_0 ?_
  refine dx_bipush (pc := 2) hx dX8_seats_2 kb_6 ?_
  obtain ⟨r4, h4, h⟩ := Option.bind_eq_some_iff.mp h
  refine dx_callSir (pc := 4) (As := [.int x1, .int (nI 0), .int (nI 6)]) (rest := []) hx dX8_seats_4 k_X8_68 rfl (dc_le rfl) (dc_le rfl) (dc_le rfl) (dc_le rfl) rfl (th_X8_within h4) ?_
  refine dx_if_eq (pc := 7) hx dX8_seats_7 (tgt := 29) (by decide) (fun c7 => ?_) (fun c7 => ?_)
  · replace h := (if_pos c7).symm.trans h
    refine dx_bipush (pc := 29) hx dX8_seats_29 kb_m2 ?_
    obtain rfl := Option.some.inj h
    exact dx_iret hO (pc := 31) dX8_seats_31 rfl ⟨_, rfl, rfl, rfl⟩
  · replace h := (if_neg c7).symm.trans h
    refine dx_iload_n (pc := 10) hx dX8_seats_10 rfl ?_
    refine dx_iconst (pc := 11) hx dX8_seats_11 kc_0 ?_
    refine dx_ldc (pc := 12) hx dX8_seats_12 f_X8_188 ?_
    obtain ⟨r14, h14, h⟩ := Option.bind_eq_some_iff.mp h
    refine dx_callSir (pc := 14) (As := [.int x2, .int (nI 0), .int ((999999 : Int32))]) (rest := []) hx dX8_seats_14 k_X8_68 rfl (dc_le rfl) (dc_le rfl) (dc_le rfl) (dc_le rfl) rfl (th_X8_within h14) ?_
    refine dx_if_eq (pc := 17) hx dX8_seats_17 (tgt := 29) (by decide) (fun c17 => ?_) (fun c17 => ?_)
    · replace h := (if_pos c17).symm.trans h
      refine dx_bipush (pc := 29) hx dX8_seats_29 kb_m2 ?_
      obtain rfl := Option.some.inj h
      exact dx_iret hO (pc := 31) dX8_seats_31 rfl ⟨_, rfl, rfl, rfl⟩
    · replace h := (if_neg c17).symm.trans h
      refine dx_iload_n (pc := 20) hx dX8_seats_20 rfl ?_
      refine dx_iconst (pc := 21) hx dX8_seats_21 kc_0 ?_
      refine dx_iconst (pc := 22) hx dX8_seats_22 kc_1 ?_
      obtain ⟨r23, h23, h⟩ := Option.bind_eq_some_iff.mp h
      refine dx_callSir (pc := 23) (As := [.int x3, .int (nI 0), .int (nI 1)]) (rest := []) hx dX8_seats_23 k_X8_68 rfl (dc_le rfl) (dc_le rfl) (dc_le rfl) (dc_le rfl) rfl (th_X8_within h23) ?_
      refine dx_if_ne (pc := 26) hx dX8_seats_26 (tgt := 32) (by decide) (fun c26 => ?_) (fun c26 => ?_)
      · replace h := (if_neg c26).symm.trans h
        refine dx_iconst (pc := 32) hx dX8_seats_32 kc_0 ?_
        refine dx_istore (pc := 33) hx dX8_seats_33 (dc_le rfl) (ls' := [some (.ref 0), some (.int x1), some (.int x2), some (.int x3), some (.int (nI 0)), none, none, none]) rfl ?_
        refine dx_iconst (pc := 35) hx dX8_seats_35 kc_0 ?_
        refine dx_istore (pc := 36) hx dX8_seats_36 (dc_le rfl) (ls' := [some (.ref 0), some (.int x1), some (.int x2), some (.int x3), some (.int (nI 0)), some (.int (nI 0)), none, none]) rfl ?_
        refine dx_iconst (pc := 38) hx dX8_seats_38 kc_0 ?_
        refine dx_istore (pc := 39) hx dX8_seats_39 (dc_le rfl) (ls' := [some (.ref 0), some (.int x1), some (.int x2), some (.int x3), some (.int (nI 0)), some (.int (nI 0)), some (.int (nI 0)), none]) rfl ?_
        obtain ⟨q41, h41, h⟩ := Option.bind_eq_some_iff.mp h
        refine (tl_X8_seats_L41 hO σ x1 x2 x3 200 (nI 0) (nI 0) (nI 0) q41 h41 ?_)
        refine dx_iload_n (pc := 96) hx dX8_seats_96 rfl ?_
        refine dx_if_ne (pc := 97) hx dX8_seats_97 (tgt := 105) (by decide) (fun c97 => ?_) (fun c97 => ?_)
        · replace h := (if_neg c97).symm.trans h
          refine dx_iload (pc := 105) hx dX8_seats_105 rfl ?_
          obtain rfl := Option.some.inj h
          exact dx_iret hO (pc := 107) dX8_seats_107 rfl ⟨_, rfl, rfl, rfl⟩
        · replace h := (if_pos c97).symm.trans h
          refine dx_iload (pc := 100) hx dX8_seats_100 rfl ?_
          refine dx_goto (pc := 102) hx dX8_seats_102 (tgt := 107) (by decide) ?_
          obtain rfl := Option.some.inj h
          exact dx_iret hO (pc := 107) dX8_seats_107 rfl ⟨_, rfl, rfl, rfl⟩
      · replace h := (if_pos c26).symm.trans h
        refine dx_bipush (pc := 29) hx dX8_seats_29 kb_m2 ?_
        obtain rfl := Option.some.inj h
        exact dx_iret hO (pc := 31) dX8_seats_31 rfl ⟨_, rfl, rfl, rfl⟩
set_option maxHeartbeats 4000000 in
set_option maxRecDepth 100000 in
theorem th_X8_rings {σ : dc_HP} {x1 : Int32} {x2 : Int32} {x3 : Int32} {x4 : Int32} {x5 : Int32} {r : Int32 × dc_HP} (h : fn_X8_rings σ x1 x2 x3 x4 x5 = some r) : dc_G mX8_rings [.ref 0, .int x1, .int x2, .int x3, .int x4, .int x5] σ (dc_qi (fun x τ => x = r.1 ∧ τ = r.2)) := by
  intro κ hO
  have hx : dc_Cx κ RX8 cX8_rings 6 3 69 := hO.1
  show dc_X κ 0 [some (.ref 0), some (.int x1), some (.int x2), some (.int x3), some (.int x4), some (.int x5)] [] σ
  unfold fn_X8_rings at h
  refine dx_iload_n (pc := 0) hx dX8_rings_0 rfl ?_
  obtain ⟨r1, h1, h⟩ := Option.bind_eq_some_iff.mp h
  refine dx_callSir (pc := 1) (As := [.int x1]) (rest := []) hx dX8_rings_1 k_X8_195 rfl (dc_le rfl) (dc_le rfl) (dc_le rfl) (dc_le rfl) rfl (th_X8_areRanks h1) ?_
  refine dx_if_eq (pc := 4) hx dX8_rings_4 (tgt := 39) (by decide) (fun c4 => ?_) (fun c4 => ?_)
  · replace h := (if_pos c4).symm.trans h
    refine dx_bipush (pc := 39) hx dX8_rings_39 kb_m2 ?_
    obtain rfl := Option.some.inj h
    exact dx_iret hO (pc := 41) dX8_rings_41 rfl ⟨_, rfl, rfl, rfl⟩
  · replace h := (if_neg c4).symm.trans h
    refine dx_iload_n (pc := 7) hx dX8_rings_7 rfl ?_
    obtain ⟨r8, h8, h⟩ := Option.bind_eq_some_iff.mp h
    refine dx_callSir (pc := 8) (As := [.int x2]) (rest := []) hx dX8_rings_8 k_X8_195 rfl (dc_le rfl) (dc_le rfl) (dc_le rfl) (dc_le rfl) rfl (th_X8_areRanks h8) ?_
    refine dx_if_eq (pc := 11) hx dX8_rings_11 (tgt := 39) (by decide) (fun c11 => ?_) (fun c11 => ?_)
    · replace h := (if_pos c11).symm.trans h
      refine dx_bipush (pc := 39) hx dX8_rings_39 kb_m2 ?_
      obtain rfl := Option.some.inj h
      exact dx_iret hO (pc := 41) dX8_rings_41 rfl ⟨_, rfl, rfl, rfl⟩
    · replace h := (if_neg c11).symm.trans h
      refine dx_iload_n (pc := 14) hx dX8_rings_14 rfl ?_
      obtain ⟨r15, h15, h⟩ := Option.bind_eq_some_iff.mp h
      refine dx_callSir (pc := 15) (As := [.int x3]) (rest := []) hx dX8_rings_15 k_X8_195 rfl (dc_le rfl) (dc_le rfl) (dc_le rfl) (dc_le rfl) rfl (th_X8_areRanks h15) ?_
      refine dx_if_eq (pc := 18) hx dX8_rings_18 (tgt := 39) (by decide) (fun c18 => ?_) (fun c18 => ?_)
      · replace h := (if_pos c18).symm.trans h
        refine dx_bipush (pc := 39) hx dX8_rings_39 kb_m2 ?_
        obtain rfl := Option.some.inj h
        exact dx_iret hO (pc := 41) dX8_rings_41 rfl ⟨_, rfl, rfl, rfl⟩
      · replace h := (if_neg c18).symm.trans h
        refine dx_iload (pc := 21) hx dX8_rings_21 rfl ?_
        obtain ⟨r23, h23, h⟩ := Option.bind_eq_some_iff.mp h
        refine dx_callSir (pc := 23) (As := [.int x4]) (rest := []) hx dX8_rings_23 k_X8_195 rfl (dc_le rfl) (dc_le rfl) (dc_le rfl) (dc_le rfl) rfl (th_X8_areRanks h23) ?_
        refine dx_if_eq (pc := 26) hx dX8_rings_26 (tgt := 39) (by decide) (fun c26 => ?_) (fun c26 => ?_)
        · replace h := (if_pos c26).symm.trans h
          refine dx_bipush (pc := 39) hx dX8_rings_39 kb_m2 ?_
          obtain rfl := Option.some.inj h
          exact dx_iret hO (pc := 41) dX8_rings_41 rfl ⟨_, rfl, rfl, rfl⟩
        · replace h := (if_neg c26).symm.trans h
          refine dx_iload (pc := 29) hx dX8_rings_29 rfl ?_
          refine dx_iconst (pc := 31) hx dX8_rings_31 kc_0 ?_
          refine dx_iconst (pc := 32) hx dX8_rings_32 kc_1 ?_
          obtain ⟨r33, h33, h⟩ := Option.bind_eq_some_iff.mp h
          refine dx_callSir (pc := 33) (As := [.int x5, .int (nI 0), .int (nI 1)]) (rest := []) hx dX8_rings_33 k_X8_68 rfl (dc_le rfl) (dc_le rfl) (dc_le rfl) (dc_le rfl) rfl (th_X8_within h33) ?_
          refine dx_if_ne (pc := 36) hx dX8_rings_36 (tgt := 42) (by decide) (fun c36 => ?_) (fun c36 => ?_)
          · replace h := (if_neg c36).symm.trans h
            refine dx_aload_n (pc := 42) hx dX8_rings_42 rfl ?_
            refine dx_getR (r := 24) (pc := 43) hx dX8_rings_43 f_X8_47 rfl rfl ?_
            refine dx_iload_n (pc := 46) hx dX8_rings_46 rfl ?_
            refine dx_iload_n (pc := 47) hx dX8_rings_47 rfl ?_
            refine dx_iload_n (pc := 48) hx dX8_rings_48 rfl ?_
            refine dx_iload (pc := 49) hx dX8_rings_49 rfl ?_
            obtain ⟨r51, h51, h⟩ := Option.bind_eq_some_iff.mp h
            refine dx_callVvw (pc := 51) (As := [.int x1, .int x2, .int x3, .int x4]) (rest := []) hx dX8_rings_51 k_X8_198 rfl rfl rfl rfl (dc_le rfl) (dc_le rfl) (dc_le rfl) (dc_le rfl) rfl (th_X5_start h51) ?_
            refine dx_aload_n (pc := 54) hx dX8_rings_54 rfl ?_
            refine dx_getR (r := 24) (pc := 55) hx dX8_rings_55 f_X8_47 rfl rfl ?_
            obtain ⟨r58, h58, h⟩ := Option.bind_eq_some_iff.mp h
            refine dx_callVvw (pc := 58) (As := []) (rest := []) hx dX8_rings_58 k_X8_201 rfl rfl rfl rfl (dc_le rfl) (dc_le rfl) (dc_le rfl) (dc_le rfl) rfl (th_X5_swap h58) ?_
            refine dx_iload (pc := 61) hx dX8_rings_61 rfl ?_
            refine dx_if_ne (pc := 63) hx dX8_rings_63 (tgt := 76) (by decide) (fun c63 => ?_) (fun c63 => ?_)
            · replace h := (if_neg c63).symm.trans h
              refine dx_aload_n (pc := 76) hx dX8_rings_76 rfl ?_
              refine dx_getR (r := 24) (pc := 77) hx dX8_rings_77 f_X8_47 rfl rfl ?_
              obtain ⟨r80, h80, h⟩ := Option.bind_eq_some_iff.mp h
              refine dx_callVir (pc := 80) (As := []) (rest := []) hx dX8_rings_80 k_X8_207 rfl rfl rfl rfl (dc_le rfl) (dc_le rfl) (dc_le rfl) (dc_le rfl) rfl (th_X5_countOwn h80) ?_
              obtain rfl := Option.some.inj h
              exact dx_iret hO (pc := 83) dX8_rings_83 rfl ⟨_, rfl, rfl, rfl⟩
            · replace h := (if_pos c63).symm.trans h
              refine dx_aload_n (pc := 66) hx dX8_rings_66 rfl ?_
              refine dx_getR (r := 24) (pc := 67) hx dX8_rings_67 f_X8_47 rfl rfl ?_
              obtain ⟨r70, h70, h⟩ := Option.bind_eq_some_iff.mp h
              refine dx_callVir (pc := 70) (As := []) (rest := []) hx dX8_rings_70 k_X8_204 rfl rfl rfl rfl (dc_le rfl) (dc_le rfl) (dc_le rfl) (dc_le rfl) rfl (th_X5_partsAsDigits h70) ?_
              refine dx_goto (pc := 73) hx dX8_rings_73 (tgt := 83) (by decide) ?_
              obtain rfl := Option.some.inj h
              exact dx_iret hO (pc := 83) dX8_rings_83 rfl ⟨_, rfl, rfl, rfl⟩
          · replace h := (if_pos c36).symm.trans h
            refine dx_bipush (pc := 39) hx dX8_rings_39 kb_m2 ?_
            obtain rfl := Option.some.inj h
            exact dx_iret hO (pc := 41) dX8_rings_41 rfl ⟨_, rfl, rfl, rfl⟩
set_option maxHeartbeats 4000000 in
set_option maxRecDepth 100000 in
theorem th_X8_seen {σ : dc_HP} {x1 : Int32} {x2 : Int32} {r : Int32 × dc_HP} (h : fn_X8_seen σ x1 x2 = some r) : dc_G mX8_seen [.ref 0, .int x1, .int x2] σ (dc_qi (fun x τ => x = r.1 ∧ τ = r.2)) := by
  intro κ hO
  have hx : dc_Cx κ RX8 cX8_seen 3 2 44 := hO.1
  show dc_X κ 0 [some (.ref 0), some (.int x1), some (.int x2)] [] σ
  unfold fn_X8_seen at h
  refine dx_iload_n (pc := 0) hx dX8_seen_0 rfl ?_
  refine dx_iconst (pc := 1) hx dX8_seen_1 kc_1 ?_
  refine dx_bipush (pc := 2) hx dX8_seen_2 kb_9 ?_
  obtain ⟨r4, h4, h⟩ := Option.bind_eq_some_iff.mp h
  refine dx_callSir (pc := 4) (As := [.int x1, .int (nI 1), .int (nI 9)]) (rest := []) hx dX8_seen_4 k_X8_68 rfl (dc_le rfl) (dc_le rfl) (dc_le rfl) (dc_le rfl) rfl (th_X8_within h4) ?_
  refine dx_if_eq (pc := 7) hx dX8_seen_7 (tgt := 20) (by decide) (fun c7 => ?_) (fun c7 => ?_)
  · replace h := (if_pos c7).symm.trans h
    refine dx_bipush (pc := 20) hx dX8_seen_20 kb_m2 ?_
    obtain rfl := Option.some.inj h
    exact dx_iret hO (pc := 22) dX8_seen_22 rfl ⟨_, rfl, rfl, rfl⟩
  · replace h := (if_neg c7).symm.trans h
    refine dx_iload_n (pc := 10) hx dX8_seen_10 rfl ?_
    refine dx_iconst (pc := 11) hx dX8_seen_11 kc_0 ?_
    refine dx_bipush (pc := 12) hx dX8_seen_12 kb_18 ?_
    obtain ⟨r14, h14, h⟩ := Option.bind_eq_some_iff.mp h
    refine dx_callSir (pc := 14) (As := [.int x2, .int (nI 0), .int (nI 18)]) (rest := []) hx dX8_seen_14 k_X8_68 rfl (dc_le rfl) (dc_le rfl) (dc_le rfl) (dc_le rfl) rfl (th_X8_within h14) ?_
    refine dx_if_ne (pc := 17) hx dX8_seen_17 (tgt := 23) (by decide) (fun c17 => ?_) (fun c17 => ?_)
    · replace h := (if_neg c17).symm.trans h
      refine dx_aload_n (pc := 23) hx dX8_seen_23 rfl ?_
      refine dx_getR (r := 7) (pc := 24) hx dX8_seen_24 f_X8_19 rfl rfl ?_
      refine dx_iload_n (pc := 27) hx dX8_seen_27 rfl ?_
      refine dx_iload_n (pc := 28) hx dX8_seen_28 rfl ?_
      obtain ⟨r29, h29, h⟩ := Option.bind_eq_some_iff.mp h
      refine dx_callViw (pc := 29) (As := [.int x1, .int x2]) (rest := []) hx dX8_seen_29 k_X8_210 rfl rfl rfl rfl (dc_le rfl) (dc_le rfl) (dc_le rfl) (dc_le rfl) rfl (th_X6_add_7 h29) ?_
      refine dx_if_eq (pc := 32) hx dX8_seen_32 (tgt := 45) (by decide) (fun c32 => ?_) (fun c32 => ?_)
      · replace h := (if_pos c32).symm.trans h
        refine dx_bipush (pc := 45) hx dX8_seen_45 kb_m4 ?_
        obtain rfl := Option.some.inj h
        exact dx_iret hO (pc := 47) dX8_seen_47 rfl ⟨_, rfl, rfl, rfl⟩
      · replace h := (if_neg c32).symm.trans h
        refine dx_aload_n (pc := 35) hx dX8_seen_35 rfl ?_
        refine dx_getR (r := 7) (pc := 36) hx dX8_seen_36 f_X8_19 rfl rfl ?_
        refine dx_getI (pc := 39) hx dX8_seen_39 f_X8_213 rfl rfl ?_
        refine dx_goto (pc := 42) hx dX8_seen_42 (tgt := 47) (by decide) ?_
        obtain rfl := Option.some.inj h
        exact dx_iret hO (pc := 47) dX8_seen_47 rfl ⟨_, rfl, rfl, rfl⟩
    · replace h := (if_pos c17).symm.trans h
      refine dx_bipush (pc := 20) hx dX8_seen_20 kb_m2 ?_
      obtain rfl := Option.some.inj h
      exact dx_iret hO (pc := 22) dX8_seen_22 rfl ⟨_, rfl, rfl, rfl⟩
set_option maxHeartbeats 4000000 in
set_option maxRecDepth 100000 in
theorem th_X8_forget {σ : dc_HP} {r : Int32 × dc_HP} (h : fn_X8_forget σ = some r) : dc_G mX8_forget [.ref 0] σ (dc_qi (fun x τ => x = r.1 ∧ τ = r.2)) := by
  intro κ hO
  have hx : dc_Cx κ RX8 cX8_forget 2 0 0 := hO.1
  show dc_X κ 0 [some (.ref 0), none] [] σ
  unfold fn_X8_forget at h
  refine dx_aload_n (pc := 0) hx dX8_forget_0 rfl ?_
  refine dx_getR (r := 7) (pc := 1) hx dX8_forget_1 f_X8_19 rfl rfl ?_
  refine dx_getI (pc := 4) hx dX8_forget_4 f_X8_213 rfl rfl ?_
  refine dx_istore_n (pc := 7) hx dX8_forget_7 (dc_le rfl) (ls' := [some (.ref 0), some (.int (σ.1 7 0))]) rfl ?_
  refine dx_aload_n (pc := 8) hx dX8_forget_8 rfl ?_
  refine dx_getR (r := 7) (pc := 9) hx dX8_forget_9 f_X8_19 rfl rfl ?_
  refine dx_iconst (pc := 12) hx dX8_forget_12 kc_0 ?_
  refine dx_putI (pc := 13) hx dX8_forget_13 f_X8_213 rfl rfl tyX6_ok rfl (Or.inl ⟨rfl, rfl⟩) ?_
  refine dx_nm (fun s13 e13 => ?_)
  replace h := dc_lt e13 h
  refine dx_iload_n (pc := 16) hx dX8_forget_16 rfl ?_
  obtain rfl := Option.some.inj h
  exact dx_iret hO (pc := 17) dX8_forget_17 rfl ⟨_, rfl, rfl, rfl⟩
set_option maxHeartbeats 4000000 in
set_option maxRecDepth 100000 in
theorem th_X8_holds {σ : dc_HP} {x1 : Int32} {r : Int32 × dc_HP} (h : fn_X8_holds σ x1 = some r) : dc_G mX8_holds [.ref 0, .int x1] σ (dc_qi (fun x τ => x = r.1 ∧ τ = r.2)) := by
  intro κ hO
  have hx : dc_Cx κ RX8 cX8_holds 2 4 87 := hO.1
  show dc_X κ 0 [some (.ref 0), some (.int x1)] [] σ
  unfold fn_X8_holds at h
  refine dx_aload_n (pc := 0) hx dX8_holds_0 rfl ?_
  refine dx_getR (r := 7) (pc := 1) hx dX8_holds_1 f_X8_19 rfl rfl ?_
  obtain ⟨r4, h4, h⟩ := Option.bind_eq_some_iff.mp h
  refine dx_callVvw (pc := 4) (As := []) (rest := []) hx dX8_holds_4 k_X8_214 rfl rfl rfl rfl (dc_le rfl) (dc_le rfl) (dc_le rfl) (dc_le rfl) rfl (th_X6_findRows_7 h4) ?_
  refine dx_iload_n (pc := 7) hx dX8_holds_7 rfl ?_
  refine dx_iconst (pc := 8) hx dX8_holds_8 kc_m1 ?_
  refine dx_icmp_ne (pc := 9) hx dX8_holds_9 (tgt := 22) (by decide) (fun c9 => ?_) (fun c9 => ?_)
  · replace h := (if_neg c9).symm.trans h
    refine dx_aload_n (pc := 22) hx dX8_holds_22 rfl ?_
    refine dx_getR (r := 7) (pc := 23) hx dX8_holds_23 f_X8_19 rfl rfl ?_
    refine dx_iload_n (pc := 26) hx dX8_holds_26 rfl ?_
    obtain ⟨r27, h27, h⟩ := Option.bind_eq_some_iff.mp h
    refine dx_callVir (pc := 27) (As := [.int x1]) (rest := []) hx dX8_holds_27 k_X8_220 rfl rfl rfl rfl (dc_le rfl) (dc_le rfl) (dc_le rfl) (dc_le rfl) rfl (th_X6_rowAt_7 h27) ?_
    obtain rfl := Option.some.inj h
    exact dx_iret hO (pc := 30) dX8_holds_30 rfl ⟨_, rfl, rfl, rfl⟩
  · replace h := (if_pos c9).symm.trans h
    refine dx_aload_n (pc := 12) hx dX8_holds_12 rfl ?_
    refine dx_getR (r := 7) (pc := 13) hx dX8_holds_13 f_X8_19 rfl rfl ?_
    refine dx_getI (pc := 16) hx dX8_holds_16 f_X8_217 rfl rfl ?_
    refine dx_goto (pc := 19) hx dX8_holds_19 (tgt := 30) (by decide) ?_
    obtain rfl := Option.some.inj h
    exact dx_iret hO (pc := 30) dX8_holds_30 rfl ⟨_, rfl, rfl, rfl⟩
set_option maxHeartbeats 4000000 in
set_option maxRecDepth 100000 in
theorem tl_X8_ask_L46 {κ : dc_KX} {Q : Option Value → dc_HP → Prop} (hO : dc_Ok κ mX8_ask Q) (x1 : Int32) : ∀ (n : Nat) (x2 : Int32) (x3 : Int32) (x4 : Int32) (σ : dc_HP) (q : Int32 × Int32 × dc_HP), fn_X8_ask_L46 x1 n x2 x3 x4 σ = some q → ∀ (hk : dc_X κ 82 [some (.ref 0), some (.int x1), some (.int q.1), some (.int q.2.1), none, none] [] q.2.2), dc_X κ 46 [some (.ref 0), some (.int x1), some (.int x2), some (.int x3), some (.int x4), none] [] σ := by
  have hx : dc_Cx κ RX8 cX8_ask 6 4 87 := hO.1
  intro n
  induction n with
  | zero =>
    intro x2 x3 x4 σ q h
    cases h
  | succ n ih =>
    intro x2 x3 x4 σ q h hk
    unfold fn_X8_ask_L46 at h
    refine dx_iload (pc := 46) hx dX8_ask_46 rfl ?_
    refine dx_bipush (pc := 48) hx dX8_ask_48 kb_9 ?_
    refine dx_icmp_gt (pc := 50) hx dX8_ask_50 (tgt := 82) (by decide) (fun c50 => ?_) (fun c50 => ?_)
    · replace h := (if_pos c50).symm.trans h
      obtain rfl := Option.some.inj h
      exact dx_wk [true, true, true, true, false, true] <| hk
    · replace h := (if_neg c50).symm.trans h
      refine dx_aload_n (pc := 53) hx dX8_ask_53 rfl ?_
      refine dx_getR (r := 7) (pc := 54) hx dX8_ask_54 f_X8_19 rfl rfl ?_
      refine dx_iload (pc := 57) hx dX8_ask_57 rfl ?_
      obtain ⟨r59, h59, h⟩ := Option.bind_eq_some_iff.mp h
      refine dx_callViw (pc := 59) (As := [.int x4]) (rest := []) hx dX8_ask_59 k_X8_223 rfl rfl rfl rfl (dc_le rfl) (dc_le rfl) (dc_le rfl) (dc_le rfl) rfl (th_X6_mostLeft_7 h59) ?_
      refine dx_istore (pc := 62) hx dX8_ask_62 (dc_le rfl) (ls' := [some (.ref 0), some (.int x1), some (.int x2), some (.int x3), some (.int x4), some (.int r59.1)]) rfl ?_
      refine dx_iload (pc := 64) hx dX8_ask_64 rfl ?_
      refine dx_iload_n (pc := 66) hx dX8_ask_66 rfl ?_
      refine dx_icmp_ge (pc := 67) hx dX8_ask_67 (tgt := 76) (by decide) (fun c67 => ?_) (fun c67 => ?_)
      · replace h := (if_pos c67).symm.trans h
        refine dx_iinc (pc := 76) hx dX8_ask_76 rfl (v := x4 + nI 1) (congrArg (fun z => x4 + z) kc_1) (dc_le rfl) (ls' := [some (.ref 0), some (.int x1), some (.int x2), some (.int x3), some (.int (x4 + nI 1)), some (.int r59.1)]) rfl ?_
        refine dx_goto (pc := 79) hx dX8_ask_79 (tgt := 46) (by decide) ?_
        exact dx_wk [true, true, true, true, true, false] <| (ih x2 x3 (x4 + nI 1) r59.2 q h hk)
      · replace h := (if_neg c67).symm.trans h
        refine dx_iload (pc := 70) hx dX8_ask_70 rfl ?_
        refine dx_istore_n (pc := 72) hx dX8_ask_72 (dc_le rfl) (ls' := [some (.ref 0), some (.int x1), some (.int x4), some (.int x3), some (.int x4), some (.int r59.1)]) rfl ?_
        refine dx_iload (pc := 73) hx dX8_ask_73 rfl ?_
        refine dx_istore_n (pc := 75) hx dX8_ask_75 (dc_le rfl) (ls' := [some (.ref 0), some (.int x1), some (.int x4), some (.int r59.1), some (.int x4), some (.int r59.1)]) rfl ?_
        refine dx_iinc (pc := 76) hx dX8_ask_76 rfl (v := x4 + nI 1) (congrArg (fun z => x4 + z) kc_1) (dc_le rfl) (ls' := [some (.ref 0), some (.int x1), some (.int x4), some (.int r59.1), some (.int (x4 + nI 1)), some (.int r59.1)]) rfl ?_
        refine dx_goto (pc := 79) hx dX8_ask_79 (tgt := 46) (by decide) ?_
        exact dx_wk [true, true, true, true, true, false] <| (ih x4 r59.1 (x4 + nI 1) r59.2 q h hk)
set_option maxHeartbeats 4000000 in
set_option maxRecDepth 100000 in
theorem th_X8_ask {σ : dc_HP} {x1 : Int32} {r : Int32 × dc_HP} (h : fn_X8_ask σ x1 = some r) : dc_G mX8_ask [.ref 0, .int x1] σ (dc_qi (fun x τ => x = r.1 ∧ τ = r.2)) := by
  intro κ hO
  have hx : dc_Cx κ RX8 cX8_ask 6 4 87 := hO.1
  show dc_X κ 0 [some (.ref 0), some (.int x1), none, none, none, none] [] σ
  unfold fn_X8_ask at h
  refine dx_iload_n (pc := 0) hx dX8_ask_0 rfl ?_
  refine dx_iconst (pc := 1) hx dX8_ask_1 kc_0 ?_
  refine dx_iconst (pc := 2) hx dX8_ask_2 kc_1 ?_
  obtain ⟨r3, h3, h⟩ := Option.bind_eq_some_iff.mp h
  refine dx_callSir (pc := 3) (As := [.int x1, .int (nI 0), .int (nI 1)]) (rest := []) hx dX8_ask_3 k_X8_68 rfl (dc_le rfl) (dc_le rfl) (dc_le rfl) (dc_le rfl) rfl (th_X8_within h3) ?_
  refine dx_if_ne (pc := 6) hx dX8_ask_6 (tgt := 12) (by decide) (fun c6 => ?_) (fun c6 => ?_)
  · replace h := (if_neg c6).symm.trans h
    refine dx_aload_n (pc := 12) hx dX8_ask_12 rfl ?_
    refine dx_getR (r := 7) (pc := 13) hx dX8_ask_13 f_X8_19 rfl rfl ?_
    obtain ⟨r16, h16, h⟩ := Option.bind_eq_some_iff.mp h
    refine dx_callVvw (pc := 16) (As := []) (rest := []) hx dX8_ask_16 k_X8_214 rfl rfl rfl rfl (dc_le rfl) (dc_le rfl) (dc_le rfl) (dc_le rfl) rfl (th_X6_findRows_7 h16) ?_
    refine dx_aload_n (pc := 19) hx dX8_ask_19 rfl ?_
    refine dx_getR (r := 7) (pc := 20) hx dX8_ask_20 f_X8_19 rfl rfl ?_
    refine dx_getI (pc := 23) hx dX8_ask_23 f_X8_217 rfl rfl ?_
    refine dx_if_ne (pc := 26) hx dX8_ask_26 (tgt := 32) (by decide) (fun c26 => ?_) (fun c26 => ?_)
    · replace h := (if_neg c26).symm.trans h
      refine dx_iconst (pc := 32) hx dX8_ask_32 kc_1 ?_
      refine dx_istore_n (pc := 33) hx dX8_ask_33 (dc_le rfl) (ls' := [some (.ref 0), some (.int x1), some (.int (nI 1)), none, none, none]) rfl ?_
      refine dx_aload_n (pc := 34) hx dX8_ask_34 rfl ?_
      refine dx_getR (r := 7) (pc := 35) hx dX8_ask_35 f_X8_19 rfl rfl ?_
      refine dx_iconst (pc := 38) hx dX8_ask_38 kc_1 ?_
      obtain ⟨r39, h39, h⟩ := Option.bind_eq_some_iff.mp h
      refine dx_callViw (pc := 39) (As := [.int (nI 1)]) (rest := []) hx dX8_ask_39 k_X8_223 rfl rfl rfl rfl (dc_le rfl) (dc_le rfl) (dc_le rfl) (dc_le rfl) rfl (th_X6_mostLeft_7 h39) ?_
      refine dx_istore_n (pc := 42) hx dX8_ask_42 (dc_le rfl) (ls' := [some (.ref 0), some (.int x1), some (.int (nI 1)), some (.int r39.1), none, none]) rfl ?_
      refine dx_iconst (pc := 43) hx dX8_ask_43 kc_2 ?_
      refine dx_istore (pc := 44) hx dX8_ask_44 (dc_le rfl) (ls' := [some (.ref 0), some (.int x1), some (.int (nI 1)), some (.int r39.1), some (.int (nI 2)), none]) rfl ?_
      obtain ⟨q46, h46, h⟩ := Option.bind_eq_some_iff.mp h
      refine (tl_X8_ask_L46 hO x1 200 (nI 1) r39.1 (nI 2) r39.2 q46 h46 ?_)
      refine dx_iload_n (pc := 82) hx dX8_ask_82 rfl ?_
      refine dx_if_ne (pc := 83) hx dX8_ask_83 (tgt := 90) (by decide) (fun c83 => ?_) (fun c83 => ?_)
      · replace h := (if_neg c83).symm.trans h
        refine dx_iload_n (pc := 90) hx dX8_ask_90 rfl ?_
        obtain rfl := Option.some.inj h
        exact dx_iret hO (pc := 91) dX8_ask_91 rfl ⟨_, rfl, rfl, rfl⟩
      · replace h := (if_pos c83).symm.trans h
        refine dx_iload_n (pc := 86) hx dX8_ask_86 rfl ?_
        refine dx_goto (pc := 87) hx dX8_ask_87 (tgt := 91) (by decide) ?_
        obtain rfl := Option.some.inj h
        exact dx_iret hO (pc := 91) dX8_ask_91 rfl ⟨_, rfl, rfl, rfl⟩
    · replace h := (if_pos c26).symm.trans h
      refine dx_bipush (pc := 29) hx dX8_ask_29 kb_m6 ?_
      obtain rfl := Option.some.inj h
      exact dx_iret hO (pc := 31) dX8_ask_31 rfl ⟨_, rfl, rfl, rfl⟩
  · replace h := (if_pos c6).symm.trans h
    refine dx_bipush (pc := 9) hx dX8_ask_9 kb_m2 ?_
    obtain rfl := Option.some.inj h
    exact dx_iret hO (pc := 11) dX8_ask_11 rfl ⟨_, rfl, rfl, rfl⟩
set_option maxHeartbeats 4000000 in
set_option maxRecDepth 100000 in
theorem tl_X8_commonDivisor_L15 {κ : dc_KX} {Q : Option Value → dc_HP → Prop} (hO : dc_Ok κ mX8_commonDivisor Q) (σ : dc_HP) : ∀ (n : Nat) (x4 : Int64) (x6 : Int64) (x8 : Int32) (q : Int64), fn_X8_commonDivisor_L15 n x4 x6 x8 = some q → ∀ (hk : dc_X κ 51 [none, none, none, none, some (.long q), none, none, none, none, none, none] [] σ), dc_X κ 15 [none, none, none, none, some (.long x4), none, some (.long x6), none, some (.int x8), none, none] [] σ := by
  have hx : dc_Cx κ RX8 cX8_commonDivisor 11 1 23 := hO.1
  intro n
  induction n with
  | zero =>
    intro x4 x6 x8 q h
    cases h
  | succ n ih =>
    intro x4 x6 x8 q h hk
    unfold fn_X8_commonDivisor_L15 at h
    refine dx_iload (pc := 15) hx dX8_commonDivisor_15 rfl ?_
    refine dx_sipush (pc := 17) hx dX8_commonDivisor_17 ks_1000 ?_
    refine dx_icmp_ge (pc := 20) hx dX8_commonDivisor_20 (tgt := 51) (by decide) (fun c20 => ?_) (fun c20 => ?_)
    · replace h := (if_pos c20).symm.trans h
      obtain rfl := Option.some.inj h
      exact dx_wk [true, true, true, true, true, true, false, true, false, true, true] <| hk
    · replace h := (if_neg c20).symm.trans h
      refine dx_lload (pc := 23) hx dX8_commonDivisor_23 rfl ?_
      refine dx_lconst (pc := 25) hx dX8_commonDivisor_25 (v := (0 : Int64)) (by decide) ?_
      refine dx_lcmp (pc := 26) hx dX8_commonDivisor_26 ?_
      refine dx_if_eq (pc := 27) hx dX8_commonDivisor_27 (tgt := 51) (by decide) (fun c27 => ?_) (fun c27 => ?_)
      · replace h := (if_pos c27).symm.trans h
        obtain rfl := Option.some.inj h
        exact dx_wk [true, true, true, true, true, true, false, true, false, true, true] <| hk
      · replace h := (if_neg c27).symm.trans h
        refine dx_lload (pc := 30) hx dX8_commonDivisor_30 rfl ?_
        refine dx_lload (pc := 32) hx dX8_commonDivisor_32 rfl ?_
        by_cases g34 : x6 = 0
        · cases (if_pos g34).symm.trans h
        replace h := (if_neg g34).symm.trans h
        refine dx_lrem (pc := 34) hx dX8_commonDivisor_34 g34 ?_
        refine dx_lstore (pc := 35) hx dX8_commonDivisor_35 (dc_le rfl) (ls' := [none, none, none, none, some (.long x4), none, some (.long x6), none, some (.int x8), some (.long (x4 - x4 / x6 * x6)), none]) rfl ?_
        refine dx_lload (pc := 37) hx dX8_commonDivisor_37 rfl ?_
        refine dx_lstore (pc := 39) hx dX8_commonDivisor_39 (dc_le rfl) (ls' := [none, none, none, none, some (.long x6), none, some (.long x6), none, some (.int x8), some (.long (x4 - x4 / x6 * x6)), none]) rfl ?_
        refine dx_lload (pc := 41) hx dX8_commonDivisor_41 rfl ?_
        refine dx_lstore (pc := 43) hx dX8_commonDivisor_43 (dc_le rfl) (ls' := [none, none, none, none, some (.long x6), none, some (.long (x4 - x4 / x6 * x6)), none, some (.int x8), some (.long (x4 - x4 / x6 * x6)), none]) rfl ?_
        refine dx_iinc (pc := 45) hx dX8_commonDivisor_45 rfl (v := x8 + nI 1) (congrArg (fun z => x8 + z) kc_1) (dc_le rfl) (ls' := [none, none, none, none, some (.long x6), none, some (.long (x4 - x4 / x6 * x6)), none, some (.int (x8 + nI 1)), some (.long (x4 - x4 / x6 * x6)), none]) rfl ?_
        refine dx_goto (pc := 48) hx dX8_commonDivisor_48 (tgt := 15) (by decide) ?_
        exact dx_wk [true, true, true, true, true, true, true, true, true, false, true] <| (ih x6 (x4 - x4 / x6 * x6) (x8 + nI 1) q h hk)
set_option maxHeartbeats 4000000 in
set_option maxRecDepth 100000 in
theorem th_X8_commonDivisor {σ : dc_HP} {x0 : Int64} {x2 : Int64} {r : Int64} (h : fn_X8_commonDivisor x0 x2 = some r) : dc_G mX8_commonDivisor [.long x0, .long x2] σ (dc_ql (fun x τ => x = r ∧ τ = σ)) := by
  intro κ hO
  have hx : dc_Cx κ RX8 cX8_commonDivisor 11 1 23 := hO.1
  show dc_X κ 0 [some (.long x0), none, some (.long x2), none, none, none, none, none, none, none, none] [] σ
  unfold fn_X8_commonDivisor at h
  refine dx_lload_n (pc := 0) hx dX8_commonDivisor_0 rfl ?_
  refine dx_labs (pc := 1) hx dX8_commonDivisor_1 k_X8_282 (dc_le rfl) (dc_le rfl) ?_
  refine dx_lstore (pc := 4) hx dX8_commonDivisor_4 (dc_le rfl) (ls' := [some (.long x0), none, some (.long x2), none, some (.long (if 0 < x0 then x0 else -x0)), none, none, none, none, none, none]) rfl ?_
  refine dx_lload_n (pc := 6) hx dX8_commonDivisor_6 rfl ?_
  refine dx_labs (pc := 7) hx dX8_commonDivisor_7 k_X8_282 (dc_le rfl) (dc_le rfl) ?_
  refine dx_lstore (pc := 10) hx dX8_commonDivisor_10 (dc_le rfl) (ls' := [some (.long x0), none, some (.long x2), none, some (.long (if 0 < x0 then x0 else -x0)), none, some (.long (if 0 < x2 then x2 else -x2)), none, none, none, none]) rfl ?_
  refine dx_iconst (pc := 12) hx dX8_commonDivisor_12 kc_0 ?_
  refine dx_istore (pc := 13) hx dX8_commonDivisor_13 (dc_le rfl) (ls' := [some (.long x0), none, some (.long x2), none, some (.long (if 0 < x0 then x0 else -x0)), none, some (.long (if 0 < x2 then x2 else -x2)), none, some (.int (nI 0)), none, none]) rfl ?_
  obtain ⟨q15, h15, h⟩ := Option.bind_eq_some_iff.mp h
  refine dx_wk [false, true, false, true, true, true, true, true, true, true, true] <| (tl_X8_commonDivisor_L15 hO σ  200 (if 0 < x0 then x0 else -x0) (if 0 < x2 then x2 else -x2) (nI 0) q15 h15 ?_)
  refine dx_lconst (pc := 51) hx dX8_commonDivisor_51 (v := (1 : Int64)) (by decide) ?_
  refine dx_lload (pc := 52) hx dX8_commonDivisor_52 rfl ?_
  refine dx_lmax (pc := 54) hx dX8_commonDivisor_54 k_X8_288 (dc_le rfl) (dc_le rfl) ?_
  obtain rfl := Option.some.inj h
  exact dx_lret hO (pc := 57) dX8_commonDivisor_57 rfl ⟨_, rfl, rfl, rfl⟩
set_option maxHeartbeats 4000000 in
set_option maxRecDepth 100000 in
theorem tl_X8_fugue_L88 {κ : dc_KX} {Q : Option Value → dc_HP → Prop} (hO : dc_Ok κ mX8_fugue Q) (x1 : Int32) (x2 : Int32) (x3 : Int32) (x4 : Int32) (x6 : Int32) (x7 : Int32) : ∀ (n : Nat) (x8 : Int32) (σ : dc_HP) (q : dc_HP), fn_X8_fugue_L88 x1 x2 x3 x4 x6 x7 n x8 σ = some q → ∀ (hk : dc_X κ 110 [some (.ref 0), some (.int x1), some (.int x2), some (.int x3), some (.int x4), none, some (.int x6), some (.int x7), none, none, none, none] [] q), dc_X κ 88 [some (.ref 0), some (.int x1), some (.int x2), some (.int x3), some (.int x4), none, some (.int x6), some (.int x7), some (.int x8), none, none, none] [] σ := by
  have hx : dc_Cx κ RX8 cX8_fugue 12 3 66 := hO.1
  intro n
  induction n with
  | zero =>
    intro x8 σ q h
    cases h
  | succ n ih =>
    intro x8 σ q h hk
    unfold fn_X8_fugue_L88 at h
    refine dx_iload (pc := 88) hx dX8_fugue_88 rfl ?_
    refine dx_iload_n (pc := 90) hx dX8_fugue_90 rfl ?_
    refine dx_icmp_ge (pc := 91) hx dX8_fugue_91 (tgt := 110) (by decide) (fun c91 => ?_) (fun c91 => ?_)
    · replace h := (if_pos c91).symm.trans h
      obtain rfl := Option.some.inj h
      exact dx_wk [true, true, true, true, true, true, true, true, false, true, true, true] <| hk
    · replace h := (if_neg c91).symm.trans h
      refine dx_aload_n (pc := 94) hx dX8_fugue_94 rfl ?_
      refine dx_getR (r := 28) (pc := 95) hx dX8_fugue_95 f_X8_54 rfl rfl ?_
      refine dx_iload_n (pc := 98) hx dX8_fugue_98 rfl ?_
      refine dx_iload (pc := 99) hx dX8_fugue_99 rfl ?_
      obtain ⟨r101, h101, h⟩ := Option.bind_eq_some_iff.mp h
      refine dx_callVvw (pc := 101) (As := [.int x3, .int x4]) (rest := []) hx dX8_fugue_101 k_X8_230 rfl rfl rfl rfl (dc_le rfl) (dc_le rfl) (dc_le rfl) (dc_le rfl) rfl (th_X1_evening h101) ?_
      refine dx_iinc (pc := 104) hx dX8_fugue_104 rfl (v := x8 + nI 1) (congrArg (fun z => x8 + z) kc_1) (dc_le rfl) (ls' := [some (.ref 0), some (.int x1), some (.int x2), some (.int x3), some (.int x4), none, some (.int x6), some (.int x7), some (.int (x8 + nI 1)), none, none, none]) rfl ?_
      refine dx_goto (pc := 107) hx dX8_fugue_107 (tgt := 88) (by decide) ?_
      exact (ih (x8 + nI 1) r101 q h hk)
set_option maxHeartbeats 4000000 in
set_option maxRecDepth 100000 in
theorem th_X8_fugue {σ : dc_HP} {x1 : Int32} {x2 : Int32} {x3 : Int32} {x4 : Int32} {x5 : Int32} {x6 : Int32} {x7 : Int32} {r : Int64 × dc_HP} (h : fn_X8_fugue σ x1 x2 x3 x4 x5 x6 x7 = some r) : dc_G mX8_fugue [.ref 0, .int x1, .int x2, .int x3, .int x4, .int x5, .int x6, .int x7] σ (dc_ql (fun x τ => x = r.1 ∧ τ = r.2)) := by
  intro κ hO
  have hx : dc_Cx κ RX8 cX8_fugue 12 3 66 := hO.1
  show dc_X κ 0 [some (.ref 0), some (.int x1), some (.int x2), some (.int x3), some (.int x4), some (.int x5), some (.int x6), some (.int x7), none, none, none, none] [] σ
  unfold fn_X8_fugue at h
  refine dx_iload_n (pc := 0) hx dX8_fugue_0 rfl ?_
  refine dx_iconst (pc := 1) hx dX8_fugue_1 kc_0 ?_
  refine dx_bipush (pc := 2) hx dX8_fugue_2 kb_9 ?_
  obtain ⟨r4, h4, h⟩ := Option.bind_eq_some_iff.mp h
  refine dx_callSir (pc := 4) (As := [.int x1, .int (nI 0), .int (nI 9)]) (rest := []) hx dX8_fugue_4 k_X8_68 rfl (dc_le rfl) (dc_le rfl) (dc_le rfl) (dc_le rfl) rfl (th_X8_within h4) ?_
  refine dx_if_eq (pc := 7) hx dX8_fugue_7 (tgt := 72) (by decide) (fun c7 => ?_) (fun c7 => ?_)
  · replace h := (if_pos c7).symm.trans h
    refine dx_ldc2 (pc := 72) hx dX8_fugue_72 f_X8_226 ?_
    obtain rfl := Option.some.inj h
    exact dx_lret hO (pc := 75) dX8_fugue_75 rfl ⟨_, rfl, rfl, rfl⟩
  · replace h := (if_neg c7).symm.trans h
    refine dx_iload_n (pc := 10) hx dX8_fugue_10 rfl ?_
    refine dx_iconst (pc := 11) hx dX8_fugue_11 kc_0 ?_
    refine dx_bipush (pc := 12) hx dX8_fugue_12 kb_8 ?_
    obtain ⟨r14, h14, h⟩ := Option.bind_eq_some_iff.mp h
    refine dx_callSir (pc := 14) (As := [.int x2, .int (nI 0), .int (nI 8)]) (rest := []) hx dX8_fugue_14 k_X8_68 rfl (dc_le rfl) (dc_le rfl) (dc_le rfl) (dc_le rfl) rfl (th_X8_within h14) ?_
    refine dx_if_eq (pc := 17) hx dX8_fugue_17 (tgt := 72) (by decide) (fun c17 => ?_) (fun c17 => ?_)
    · replace h := (if_pos c17).symm.trans h
      refine dx_ldc2 (pc := 72) hx dX8_fugue_72 f_X8_226 ?_
      obtain rfl := Option.some.inj h
      exact dx_lret hO (pc := 75) dX8_fugue_75 rfl ⟨_, rfl, rfl, rfl⟩
    · replace h := (if_neg c17).symm.trans h
      refine dx_iload_n (pc := 20) hx dX8_fugue_20 rfl ?_
      refine dx_iconst (pc := 21) hx dX8_fugue_21 kc_0 ?_
      refine dx_bipush (pc := 22) hx dX8_fugue_22 kb_10 ?_
      obtain ⟨r24, h24, h⟩ := Option.bind_eq_some_iff.mp h
      refine dx_callSir (pc := 24) (As := [.int x3, .int (nI 0), .int (nI 10)]) (rest := []) hx dX8_fugue_24 k_X8_68 rfl (dc_le rfl) (dc_le rfl) (dc_le rfl) (dc_le rfl) rfl (th_X8_within h24) ?_
      refine dx_if_eq (pc := 27) hx dX8_fugue_27 (tgt := 72) (by decide) (fun c27 => ?_) (fun c27 => ?_)
      · replace h := (if_pos c27).symm.trans h
        refine dx_ldc2 (pc := 72) hx dX8_fugue_72 f_X8_226 ?_
        obtain rfl := Option.some.inj h
        exact dx_lret hO (pc := 75) dX8_fugue_75 rfl ⟨_, rfl, rfl, rfl⟩
      · replace h := (if_neg c27).symm.trans h
        refine dx_iload (pc := 30) hx dX8_fugue_30 rfl ?_
        refine dx_iconst (pc := 32) hx dX8_fugue_32 kc_0 ?_
        refine dx_bipush (pc := 33) hx dX8_fugue_33 kb_9 ?_
        obtain ⟨r35, h35, h⟩ := Option.bind_eq_some_iff.mp h
        refine dx_callSir (pc := 35) (As := [.int x4, .int (nI 0), .int (nI 9)]) (rest := []) hx dX8_fugue_35 k_X8_68 rfl (dc_le rfl) (dc_le rfl) (dc_le rfl) (dc_le rfl) rfl (th_X8_within h35) ?_
        refine dx_if_eq (pc := 38) hx dX8_fugue_38 (tgt := 72) (by decide) (fun c38 => ?_) (fun c38 => ?_)
        · replace h := (if_pos c38).symm.trans h
          refine dx_ldc2 (pc := 72) hx dX8_fugue_72 f_X8_226 ?_
          obtain rfl := Option.some.inj h
          exact dx_lret hO (pc := 75) dX8_fugue_75 rfl ⟨_, rfl, rfl, rfl⟩
        · replace h := (if_neg c38).symm.trans h
          refine dx_iload (pc := 41) hx dX8_fugue_41 rfl ?_
          refine dx_iconst (pc := 43) hx dX8_fugue_43 kc_0 ?_
          refine dx_bipush (pc := 44) hx dX8_fugue_44 kb_9 ?_
          obtain ⟨r46, h46, h⟩ := Option.bind_eq_some_iff.mp h
          refine dx_callSir (pc := 46) (As := [.int x5, .int (nI 0), .int (nI 9)]) (rest := []) hx dX8_fugue_46 k_X8_68 rfl (dc_le rfl) (dc_le rfl) (dc_le rfl) (dc_le rfl) rfl (th_X8_within h46) ?_
          refine dx_if_eq (pc := 49) hx dX8_fugue_49 (tgt := 72) (by decide) (fun c49 => ?_) (fun c49 => ?_)
          · replace h := (if_pos c49).symm.trans h
            refine dx_ldc2 (pc := 72) hx dX8_fugue_72 f_X8_226 ?_
            obtain rfl := Option.some.inj h
            exact dx_lret hO (pc := 75) dX8_fugue_75 rfl ⟨_, rfl, rfl, rfl⟩
          · replace h := (if_neg c49).symm.trans h
            refine dx_iload (pc := 52) hx dX8_fugue_52 rfl ?_
            refine dx_iconst (pc := 54) hx dX8_fugue_54 kc_0 ?_
            refine dx_iconst (pc := 55) hx dX8_fugue_55 kc_1 ?_
            obtain ⟨r56, h56, h⟩ := Option.bind_eq_some_iff.mp h
            refine dx_callSir (pc := 56) (As := [.int x6, .int (nI 0), .int (nI 1)]) (rest := []) hx dX8_fugue_56 k_X8_68 rfl (dc_le rfl) (dc_le rfl) (dc_le rfl) (dc_le rfl) rfl (th_X8_within h56) ?_
            refine dx_if_eq (pc := 59) hx dX8_fugue_59 (tgt := 72) (by decide) (fun c59 => ?_) (fun c59 => ?_)
            · replace h := (if_pos c59).symm.trans h
              refine dx_ldc2 (pc := 72) hx dX8_fugue_72 f_X8_226 ?_
              obtain rfl := Option.some.inj h
              exact dx_lret hO (pc := 75) dX8_fugue_75 rfl ⟨_, rfl, rfl, rfl⟩
            · replace h := (if_neg c59).symm.trans h
              refine dx_iload (pc := 62) hx dX8_fugue_62 rfl ?_
              refine dx_iconst (pc := 64) hx dX8_fugue_64 kc_0 ?_
              refine dx_iconst (pc := 65) hx dX8_fugue_65 kc_1 ?_
              obtain ⟨r66, h66, h⟩ := Option.bind_eq_some_iff.mp h
              refine dx_callSir (pc := 66) (As := [.int x7, .int (nI 0), .int (nI 1)]) (rest := []) hx dX8_fugue_66 k_X8_68 rfl (dc_le rfl) (dc_le rfl) (dc_le rfl) (dc_le rfl) rfl (th_X8_within h66) ?_
              refine dx_if_ne (pc := 69) hx dX8_fugue_69 (tgt := 76) (by decide) (fun c69 => ?_) (fun c69 => ?_)
              · replace h := (if_neg c69).symm.trans h
                refine dx_aload_n (pc := 76) hx dX8_fugue_76 rfl ?_
                refine dx_getR (r := 28) (pc := 77) hx dX8_fugue_77 f_X8_54 rfl rfl ?_
                refine dx_iload (pc := 80) hx dX8_fugue_80 rfl ?_
                obtain ⟨r82, h82, h⟩ := Option.bind_eq_some_iff.mp h
                refine dx_callVvw (pc := 82) (As := [.int x5]) (rest := []) hx dX8_fugue_82 k_X8_228 rfl rfl rfl rfl (dc_le rfl) (dc_le rfl) (dc_le rfl) (dc_le rfl) rfl (th_X1_start h82) ?_
                refine dx_iconst (pc := 85) hx dX8_fugue_85 kc_0 ?_
                refine dx_istore (pc := 86) hx dX8_fugue_86 (dc_le rfl) (ls' := [some (.ref 0), some (.int x1), some (.int x2), some (.int x3), some (.int x4), some (.int x5), some (.int x6), some (.int x7), some (.int (nI 0)), none, none, none]) rfl ?_
                obtain ⟨q88, h88, h⟩ := Option.bind_eq_some_iff.mp h
                refine dx_wk [true, true, true, true, true, false, true, true, true, true, true, true] <| (tl_X8_fugue_L88 hO x1 x2 x3 x4 x6 x7 200 (nI 0) r82 q88 h88 ?_)
                refine dx_iload (pc := 110) hx dX8_fugue_110 rfl ?_
                refine dx_iconst (pc := 112) hx dX8_fugue_112 kc_1 ?_
                refine dx_icmp_ne (pc := 113) hx dX8_fugue_113 (tgt := 129) (by decide) (fun c113 => ?_) (fun c113 => ?_)
                · replace h := (if_neg c113).symm.trans h
                  refine dx_aload_n (pc := 129) hx dX8_fugue_129 rfl ?_
                  refine dx_getR (r := 28) (pc := 130) hx dX8_fugue_130 f_X8_54 rfl rfl ?_
                  refine dx_iload_n (pc := 133) hx dX8_fugue_133 rfl ?_
                  obtain ⟨r134, h134, h⟩ := Option.bind_eq_some_iff.mp h
                  refine dx_callVlr (pc := 134) (As := [.int x1]) (rest := []) hx dX8_fugue_134 k_X8_237 rfl rfl rfl rfl (dc_le rfl) (dc_le rfl) (dc_le rfl) (dc_le rfl) rfl (th_X1_bestOf h134) ?_
                  refine dx_lstore (pc := 137) hx dX8_fugue_137 (dc_le rfl) (ls' := [some (.ref 0), some (.int x1), some (.int x2), some (.int x3), some (.int x4), none, some (.int x6), some (.int x7), some (.long r134), none, none, none]) rfl ?_
                  refine dx_lload (pc := 139) hx dX8_fugue_139 rfl ?_
                  refine dx_aload_n (pc := 141) hx dX8_fugue_141 rfl ?_
                  refine dx_getR (r := 28) (pc := 142) hx dX8_fugue_142 f_X8_54 rfl rfl ?_
                  refine dx_getJ (pc := 145) hx dX8_fugue_145 f_X8_241 rfl rfl ?_
                  obtain ⟨r148, h148, h⟩ := Option.bind_eq_some_iff.mp h
                  refine dx_callSlr (pc := 148) (As := [.long r134, .long (q88.2 28 0)]) (rest := []) hx dX8_fugue_148 k_X8_245 rfl (dc_le rfl) (dc_le rfl) (dc_le rfl) (dc_le rfl) rfl (th_X8_commonDivisor h148) ?_
                  refine dx_lstore (pc := 151) hx dX8_fugue_151 (dc_le rfl) (ls' := [some (.ref 0), some (.int x1), some (.int x2), some (.int x3), some (.int x4), none, some (.int x6), some (.int x7), some (.long r134), none, some (.long r148), none]) rfl ?_
                  refine dx_iload (pc := 153) hx dX8_fugue_153 rfl ?_
                  refine dx_if_ne (pc := 155) hx dX8_fugue_155 (tgt := 163) (by decide) (fun c155 => ?_) (fun c155 => ?_)
                  · replace h := (if_neg c155).symm.trans h
                    refine dx_aload_n (pc := 163) hx dX8_fugue_163 rfl ?_
                    refine dx_getR (r := 28) (pc := 164) hx dX8_fugue_164 f_X8_54 rfl rfl ?_
                    refine dx_getJ (pc := 167) hx dX8_fugue_167 f_X8_241 rfl rfl ?_
                    refine dx_lload (pc := 170) hx dX8_fugue_170 rfl ?_
                    by_cases g172 : r148 = 0
                    · cases (if_pos g172).symm.trans h
                    replace h := (if_neg g172).symm.trans h
                    refine dx_ldiv (pc := 172) hx dX8_fugue_172 g172 ?_
                    obtain rfl := Option.some.inj h
                    exact dx_lret hO (pc := 173) dX8_fugue_173 rfl ⟨_, rfl, rfl, rfl⟩
                  · replace h := (if_pos c155).symm.trans h
                    refine dx_lload (pc := 158) hx dX8_fugue_158 rfl ?_
                    refine dx_goto (pc := 160) hx dX8_fugue_160 (tgt := 170) (by decide) ?_
                    refine dx_lload (pc := 170) hx dX8_fugue_170 rfl ?_
                    by_cases g172 : r148 = 0
                    · cases (if_pos g172).symm.trans h
                    replace h := (if_neg g172).symm.trans h
                    refine dx_ldiv (pc := 172) hx dX8_fugue_172 g172 ?_
                    obtain rfl := Option.some.inj h
                    exact dx_lret hO (pc := 173) dX8_fugue_173 rfl ⟨_, rfl, rfl, rfl⟩
                · replace h := (if_pos c113).symm.trans h
                  refine dx_aload_n (pc := 116) hx dX8_fugue_116 rfl ?_
                  refine dx_getR (r := 28) (pc := 117) hx dX8_fugue_117 f_X8_54 rfl rfl ?_
                  refine dx_getI (pc := 120) hx dX8_fugue_120 f_X8_234 rfl rfl ?_
                  refine dx_iload_n (pc := 123) hx dX8_fugue_123 rfl ?_
                  obtain ⟨r124, h124, h⟩ := Option.bind_eq_some_iff.mp h
                  refine dx_callSir (pc := 124) (As := [.int (q88.1 28 1), .int x1]) (rest := []) hx dX8_fugue_124 k_X8_137 rfl (dc_le rfl) (dc_le rfl) (dc_le rfl) (dc_le rfl) rfl (th_X8_bit h124) ?_
                  refine dx_i2l (pc := 127) hx dX8_fugue_127 ?_
                  obtain rfl := Option.some.inj h
                  exact dx_lret hO (pc := 128) dX8_fugue_128 rfl ⟨_, rfl, rfl, rfl⟩
              · replace h := (if_pos c69).symm.trans h
                refine dx_ldc2 (pc := 72) hx dX8_fugue_72 f_X8_226 ?_
                obtain rfl := Option.some.inj h
                exact dx_lret hO (pc := 75) dX8_fugue_75 rfl ⟨_, rfl, rfl, rfl⟩
set_option maxHeartbeats 4000000 in
set_option maxRecDepth 100000 in
theorem tl_X8_year_L50 {κ : dc_KX} {Q : Option Value → dc_HP → Prop} (hO : dc_Ok κ mX8_year Q) (x2 : Int32) (x3 : Int32) : ∀ (n : Nat) (x4 : Int32) (x5 : Int32) (σ : dc_HP) (q : dc_HP), fn_X8_year_L50 x2 x3 n x4 x5 σ = some q → ∀ (hk : dc_X κ 84 [some (.ref 0), none, some (.int x2), some (.int x3), none, none] [] q), dc_X κ 50 [some (.ref 0), none, some (.int x2), some (.int x3), some (.int x4), some (.int x5)] [] σ := by
  have hx : dc_Cx κ RX8 cX8_year 6 5 113 := hO.1
  intro n
  induction n with
  | zero =>
    intro x4 x5 σ q h
    cases h
  | succ n ih =>
    intro x4 x5 σ q h hk
    unfold fn_X8_year_L50 at h
    refine dx_iload (pc := 50) hx dX8_year_50 rfl ?_
    refine dx_iload_n (pc := 52) hx dX8_year_52 rfl ?_
    refine dx_icmp_ge (pc := 53) hx dX8_year_53 (tgt := 84) (by decide) (fun c53 => ?_) (fun c53 => ?_)
    · replace h := (if_pos c53).symm.trans h
      obtain rfl := Option.some.inj h
      exact dx_wk [true, true, true, true, false, false] <| hk
    · replace h := (if_neg c53).symm.trans h
      refine dx_bipush (pc := 56) hx dX8_year_56 kb_75 ?_
      refine dx_iload (pc := 58) hx dX8_year_58 rfl ?_
      refine dx_imul (pc := 60) hx dX8_year_60 ?_
      refine dx_bipush (pc := 61) hx dX8_year_61 kb_74 ?_
      refine dx_iadd (pc := 63) hx dX8_year_63 ?_
      refine dx_ldc (pc := 64) hx dX8_year_64 f_X8_251 ?_
      refine dx_irem (pc := 66) hx dX8_year_66 (by decide) ?_
      refine dx_istore (pc := 67) hx dX8_year_67 (dc_le rfl) (ls' := [some (.ref 0), none, some (.int x2), some (.int x3), some (.int ((((nI 75) * x4) + (nI 74)) - (((nI 75) * x4) + (nI 74)) / ((65537 : Int32)) * ((65537 : Int32)))), some (.int x5)]) rfl ?_
      refine dx_aload_n (pc := 69) hx dX8_year_69 rfl ?_
      refine dx_getR (r := 14) (pc := 70) hx dX8_year_70 f_X8_33 rfl rfl ?_
      refine dx_iload (pc := 73) hx dX8_year_73 rfl ?_
      obtain ⟨r75, h75, h⟩ := Option.bind_eq_some_iff.mp h
      refine dx_callVvw (pc := 75) (As := [.int ((((nI 75) * x4) + (nI 74)) - (((nI 75) * x4) + (nI 74)) / ((65537 : Int32)) * ((65537 : Int32)))]) (rest := []) hx dX8_year_75 k_X8_252 rfl rfl rfl rfl (dc_le rfl) (dc_le rfl) (dc_le rfl) (dc_le rfl) rfl (th_X7_draw h75) ?_
      refine dx_iinc (pc := 78) hx dX8_year_78 rfl (v := x5 + nI 1) (congrArg (fun z => x5 + z) kc_1) (dc_le rfl) (ls' := [some (.ref 0), none, some (.int x2), some (.int x3), some (.int ((((nI 75) * x4) + (nI 74)) - (((nI 75) * x4) + (nI 74)) / ((65537 : Int32)) * ((65537 : Int32)))), some (.int (x5 + nI 1))]) rfl ?_
      refine dx_goto (pc := 81) hx dX8_year_81 (tgt := 50) (by decide) ?_
      exact (ih ((((nI 75) * x4) + (nI 74)) - (((nI 75) * x4) + (nI 74)) / ((65537 : Int32)) * ((65537 : Int32))) (x5 + nI 1) r75 q h hk)
set_option maxHeartbeats 4000000 in
set_option maxRecDepth 100000 in
theorem th_X8_year {σ : dc_HP} {x1 : Int32} {x2 : Int32} {x3 : Int32} {r : Int32 × dc_HP} (h : fn_X8_year σ x1 x2 x3 = some r) : dc_G mX8_year [.ref 0, .int x1, .int x2, .int x3] σ (dc_qi (fun x τ => x = r.1 ∧ τ = r.2)) := by
  intro κ hO
  have hx : dc_Cx κ RX8 cX8_year 6 5 113 := hO.1
  show dc_X κ 0 [some (.ref 0), some (.int x1), some (.int x2), some (.int x3), none, none] [] σ
  unfold fn_X8_year at h
  refine dx_iload_n (pc := 0) hx dX8_year_0 rfl ?_
  refine dx_iconst (pc := 1) hx dX8_year_1 kc_0 ?_
  refine dx_sipush (pc := 2) hx dX8_year_2 ks_9999 ?_
  obtain ⟨r5, h5, h⟩ := Option.bind_eq_some_iff.mp h
  refine dx_callSir (pc := 5) (As := [.int x1, .int (nI 0), .int (nI 9999)]) (rest := []) hx dX8_year_5 k_X8_68 rfl (dc_le rfl) (dc_le rfl) (dc_le rfl) (dc_le rfl) rfl (th_X8_within h5) ?_
  refine dx_if_eq (pc := 8) hx dX8_year_8 (tgt := 30) (by decide) (fun c8 => ?_) (fun c8 => ?_)
  · replace h := (if_pos c8).symm.trans h
    refine dx_bipush (pc := 30) hx dX8_year_30 kb_m2 ?_
    obtain rfl := Option.some.inj h
    exact dx_iret hO (pc := 32) dX8_year_32 rfl ⟨_, rfl, rfl, rfl⟩
  · replace h := (if_neg c8).symm.trans h
    refine dx_iload_n (pc := 11) hx dX8_year_11 rfl ?_
    refine dx_iconst (pc := 12) hx dX8_year_12 kc_1 ?_
    refine dx_bipush (pc := 13) hx dX8_year_13 kb_99 ?_
    obtain ⟨r15, h15, h⟩ := Option.bind_eq_some_iff.mp h
    refine dx_callSir (pc := 15) (As := [.int x2, .int (nI 1), .int (nI 99)]) (rest := []) hx dX8_year_15 k_X8_68 rfl (dc_le rfl) (dc_le rfl) (dc_le rfl) (dc_le rfl) rfl (th_X8_within h15) ?_
    refine dx_if_eq (pc := 18) hx dX8_year_18 (tgt := 30) (by decide) (fun c18 => ?_) (fun c18 => ?_)
    · replace h := (if_pos c18).symm.trans h
      refine dx_bipush (pc := 30) hx dX8_year_30 kb_m2 ?_
      obtain rfl := Option.some.inj h
      exact dx_iret hO (pc := 32) dX8_year_32 rfl ⟨_, rfl, rfl, rfl⟩
    · replace h := (if_neg c18).symm.trans h
      refine dx_iload_n (pc := 21) hx dX8_year_21 rfl ?_
      refine dx_iconst (pc := 22) hx dX8_year_22 kc_0 ?_
      refine dx_iconst (pc := 23) hx dX8_year_23 kc_2 ?_
      obtain ⟨r24, h24, h⟩ := Option.bind_eq_some_iff.mp h
      refine dx_callSir (pc := 24) (As := [.int x3, .int (nI 0), .int (nI 2)]) (rest := []) hx dX8_year_24 k_X8_68 rfl (dc_le rfl) (dc_le rfl) (dc_le rfl) (dc_le rfl) rfl (th_X8_within h24) ?_
      refine dx_if_ne (pc := 27) hx dX8_year_27 (tgt := 33) (by decide) (fun c27 => ?_) (fun c27 => ?_)
      · replace h := (if_neg c27).symm.trans h
        refine dx_aload_n (pc := 33) hx dX8_year_33 rfl ?_
        refine dx_getR (r := 14) (pc := 34) hx dX8_year_34 f_X8_33 rfl rfl ?_
        refine dx_aload_n (pc := 37) hx dX8_year_37 rfl ?_
        refine dx_getR (r := 1) (pc := 38) hx dX8_year_38 f_X8_10 rfl rfl ?_
        obtain ⟨r41, h41, h⟩ := Option.bind_eq_some_iff.mp h
        refine dx_callVvw (pc := 41) (As := [.ref 1]) (rest := []) hx dX8_year_41 k_X8_249 rfl rfl rfl rfl (dc_le rfl) (dc_le rfl) (dc_le rfl) (dc_le rfl) rfl (th_X7_start_1 h41) ?_
        refine dx_iload_n (pc := 44) hx dX8_year_44 rfl ?_
        refine dx_istore (pc := 45) hx dX8_year_45 (dc_le rfl) (ls' := [some (.ref 0), some (.int x1), some (.int x2), some (.int x3), some (.int x1), none]) rfl ?_
        refine dx_iconst (pc := 47) hx dX8_year_47 kc_0 ?_
        refine dx_istore (pc := 48) hx dX8_year_48 (dc_le rfl) (ls' := [some (.ref 0), some (.int x1), some (.int x2), some (.int x3), some (.int x1), some (.int (nI 0))]) rfl ?_
        obtain ⟨q50, h50, h⟩ := Option.bind_eq_some_iff.mp h
        refine dx_wk [true, false, true, true, true, true] <| (tl_X8_year_L50 hO x2 x3 200 x1 (nI 0) r41 q50 h50 ?_)
        refine dx_iload_n (pc := 84) hx dX8_year_84 rfl ?_
        refine dx_if_ne (pc := 85) hx dX8_year_85 (tgt := 99) (by decide) (fun c85 => ?_) (fun c85 => ?_)
        · replace h := (if_neg c85).symm.trans h
          refine dx_iload_n (pc := 99) hx dX8_year_99 rfl ?_
          refine dx_iconst (pc := 100) hx dX8_year_100 kc_1 ?_
          refine dx_icmp_ne (pc := 101) hx dX8_year_101 (tgt := 120) (by decide) (fun c101 => ?_) (fun c101 => ?_)
          · replace h := (if_neg c101).symm.trans h
            refine dx_aload_n (pc := 120) hx dX8_year_120 rfl ?_
            refine dx_getR (r := 14) (pc := 121) hx dX8_year_121 f_X8_33 rfl rfl ?_
            refine dx_getR (r := 15) (pc := 124) hx dX8_year_124 f_X8_127 rfl rfl ?_
            refine dx_getI (pc := 127) hx dX8_year_127 f_X8_144 rfl rfl ?_
            obtain rfl := Option.some.inj h
            exact dx_iret hO (pc := 130) dX8_year_130 rfl ⟨_, rfl, rfl, rfl⟩
          · replace h := (if_pos c101).symm.trans h
            refine dx_aload_n (pc := 104) hx dX8_year_104 rfl ?_
            refine dx_getR (r := 14) (pc := 105) hx dX8_year_105 f_X8_33 rfl rfl ?_
            refine dx_getR (r := 15) (pc := 108) hx dX8_year_108 f_X8_127 rfl rfl ?_
            obtain ⟨r111, h111, h⟩ := Option.bind_eq_some_iff.mp h
            refine dx_callVir (pc := 111) (As := []) (rest := []) hx dX8_year_111 k_X8_255 rfl rfl rfl rfl (dc_le rfl) (dc_le rfl) (dc_le rfl) (dc_le rfl) rfl (th_X0_freeSingers_15 h111) ?_
            obtain ⟨r114, h114, h⟩ := Option.bind_eq_some_iff.mp h
            refine dx_callSir (pc := 114) (As := [.int r111]) (rest := []) hx dX8_year_114 k_X8_80 rfl (dc_le rfl) (dc_le rfl) (dc_le rfl) (dc_le rfl) rfl (th_J6_bitCount_0f7a4 h114) ?_
            refine dx_goto (pc := 117) hx dX8_year_117 (tgt := 130) (by decide) ?_
            obtain rfl := Option.some.inj h
            exact dx_iret hO (pc := 130) dX8_year_130 rfl ⟨_, rfl, rfl, rfl⟩
        · replace h := (if_pos c85).symm.trans h
          refine dx_aload_n (pc := 88) hx dX8_year_88 rfl ?_
          refine dx_getR (r := 14) (pc := 89) hx dX8_year_89 f_X8_33 rfl rfl ?_
          refine dx_getR (r := 15) (pc := 92) hx dX8_year_92 f_X8_127 rfl rfl ?_
          obtain ⟨r95, h95, h⟩ := Option.bind_eq_some_iff.mp h
          refine dx_callVir (pc := 95) (As := []) (rest := []) hx dX8_year_95 k_X8_141 rfl rfl rfl rfl (dc_le rfl) (dc_le rfl) (dc_le rfl) (dc_le rfl) rfl (th_X0_allDebts_15 h95) ?_
          obtain rfl := Option.some.inj h
          exact dx_iret hO (pc := 98) dX8_year_98 rfl ⟨_, rfl, rfl, rfl⟩
      · replace h := (if_pos c27).symm.trans h
        refine dx_bipush (pc := 30) hx dX8_year_30 kb_m2 ?_
        obtain rfl := Option.some.inj h
        exact dx_iret hO (pc := 32) dX8_year_32 rfl ⟨_, rfl, rfl, rfl⟩
set_option maxHeartbeats 4000000 in
set_option maxRecDepth 100000 in
theorem th_X8_image {σ : dc_HP} {x1 : Int32} {r : Int32 × dc_HP} (h : fn_X8_image σ x1 = some r) : dc_G mX8_image [.ref 0, .int x1] σ (dc_qi (fun x τ => x = r.1 ∧ τ = r.2)) := by
  intro κ hO
  have hx : dc_Cx κ RX8 cX8_image 3 2 69 := hO.1
  show dc_X κ 0 [some (.ref 0), some (.int x1), none] [] σ
  unfold fn_X8_image at h
  refine dx_iload_n (pc := 0) hx dX8_image_0 rfl ?_
  refine dx_iconst (pc := 1) hx dX8_image_1 kc_0 ?_
  refine dx_iconst (pc := 2) hx dX8_image_2 kc_1 ?_
  obtain ⟨r3, h3, h⟩ := Option.bind_eq_some_iff.mp h
  refine dx_callSir (pc := 3) (As := [.int x1, .int (nI 0), .int (nI 1)]) (rest := []) hx dX8_image_3 k_X8_68 rfl (dc_le rfl) (dc_le rfl) (dc_le rfl) (dc_le rfl) rfl (th_X8_within h3) ?_
  refine dx_if_ne (pc := 6) hx dX8_image_6 (tgt := 12) (by decide) (fun c6 => ?_) (fun c6 => ?_)
  · replace h := (if_neg c6).symm.trans h
    refine dx_iload_n (pc := 12) hx dX8_image_12 rfl ?_
    refine dx_if_ne (pc := 13) hx dX8_image_13 (tgt := 23) (by decide) (fun c13 => ?_) (fun c13 => ?_)
    · replace h := (if_neg c13).symm.trans h
      refine dx_aload_n (pc := 23) hx dX8_image_23 rfl ?_
      refine dx_getR (r := 43) (pc := 24) hx dX8_image_24 f_X8_65 rfl rfl ?_
      refine dx_astore_n (pc := 27) hx dX8_image_27 (dc_le rfl) (ls' := [some (.ref 0), some (.int x1), some (.ref 43)]) rfl ?_
      refine dx_aload_n (pc := 28) hx dX8_image_28 rfl ?_
      refine dx_getR (r := 44) (pc := 29) hx dX8_image_29 f_X8_258 rfl rfl ?_
      refine dx_aload_n (pc := 32) hx dX8_image_32 rfl ?_
      refine dx_getR (r := 1) (pc := 33) hx dX8_image_33 f_X8_10 rfl rfl ?_
      obtain ⟨r36, h36, h⟩ := Option.bind_eq_some_iff.mp h
      refine dx_callVvw (pc := 36) (As := [.ref 1]) (rest := []) hx dX8_image_36 k_X8_153 rfl rfl rfl rfl (dc_le rfl) (dc_le rfl) (dc_le rfl) (dc_le rfl) rfl (th_X0_copyFrom_1_44 h36) ?_
      refine dx_aload_n (pc := 39) hx dX8_image_39 rfl ?_
      refine dx_getR (r := 50) (pc := 40) hx dX8_image_40 f_X8_259 rfl rfl ?_
      refine dx_aload_n (pc := 43) hx dX8_image_43 rfl ?_
      refine dx_getR (r := 7) (pc := 44) hx dX8_image_44 f_X8_19 rfl rfl ?_
      obtain ⟨r47, h47, h⟩ := Option.bind_eq_some_iff.mp h
      refine dx_callVvw (pc := 47) (As := [.ref 7]) (rest := []) hx dX8_image_47 k_X8_260 rfl rfl rfl rfl (dc_le rfl) (dc_le rfl) (dc_le rfl) (dc_le rfl) rfl (th_X6_copyFrom_7_50 h47) ?_
      refine dx_aload_n (pc := 50) hx dX8_image_50 rfl ?_
      refine dx_iconst (pc := 51) hx dX8_image_51 kc_1 ?_
      refine dx_putI (pc := 52) hx dX8_image_52 f_X8_263 rfl rfl tyX2_ok rfl (Or.inr ⟨rfl, rfl, by decide⟩) ?_
      refine dx_nm (fun s52 e52 => ?_)
      replace h := dc_lt e52 h
      refine dx_iconst (pc := 55) hx dX8_image_55 kc_1 ?_
      obtain rfl := Option.some.inj h
      exact dx_iret hO (pc := 56) dX8_image_56 rfl ⟨_, rfl, rfl, rfl⟩
    · replace h := (if_pos c13).symm.trans h
      refine dx_aload_n (pc := 16) hx dX8_image_16 rfl ?_
      refine dx_getR (r := 31) (pc := 17) hx dX8_image_17 f_X8_61 rfl rfl ?_
      refine dx_goto (pc := 20) hx dX8_image_20 (tgt := 27) (by decide) ?_
      refine dx_astore_n (pc := 27) hx dX8_image_27 (dc_le rfl) (ls' := [some (.ref 0), some (.int x1), some (.ref 31)]) rfl ?_
      refine dx_aload_n (pc := 28) hx dX8_image_28 rfl ?_
      refine dx_getR (r := 32) (pc := 29) hx dX8_image_29 f_X8_258 rfl rfl ?_
      refine dx_aload_n (pc := 32) hx dX8_image_32 rfl ?_
      refine dx_getR (r := 1) (pc := 33) hx dX8_image_33 f_X8_10 rfl rfl ?_
      obtain ⟨r36, h36, h⟩ := Option.bind_eq_some_iff.mp h
      refine dx_callVvw (pc := 36) (As := [.ref 1]) (rest := []) hx dX8_image_36 k_X8_153 rfl rfl rfl rfl (dc_le rfl) (dc_le rfl) (dc_le rfl) (dc_le rfl) rfl (th_X0_copyFrom_1_32 h36) ?_
      refine dx_aload_n (pc := 39) hx dX8_image_39 rfl ?_
      refine dx_getR (r := 38) (pc := 40) hx dX8_image_40 f_X8_259 rfl rfl ?_
      refine dx_aload_n (pc := 43) hx dX8_image_43 rfl ?_
      refine dx_getR (r := 7) (pc := 44) hx dX8_image_44 f_X8_19 rfl rfl ?_
      obtain ⟨r47, h47, h⟩ := Option.bind_eq_some_iff.mp h
      refine dx_callVvw (pc := 47) (As := [.ref 7]) (rest := []) hx dX8_image_47 k_X8_260 rfl rfl rfl rfl (dc_le rfl) (dc_le rfl) (dc_le rfl) (dc_le rfl) rfl (th_X6_copyFrom_7_38 h47) ?_
      refine dx_aload_n (pc := 50) hx dX8_image_50 rfl ?_
      refine dx_iconst (pc := 51) hx dX8_image_51 kc_1 ?_
      refine dx_putI (pc := 52) hx dX8_image_52 f_X8_263 rfl rfl tyX2_ok rfl (Or.inr ⟨rfl, rfl, by decide⟩) ?_
      refine dx_nm (fun s52 e52 => ?_)
      replace h := dc_lt e52 h
      refine dx_iconst (pc := 55) hx dX8_image_55 kc_1 ?_
      obtain rfl := Option.some.inj h
      exact dx_iret hO (pc := 56) dX8_image_56 rfl ⟨_, rfl, rfl, rfl⟩
  · replace h := (if_pos c6).symm.trans h
    refine dx_bipush (pc := 9) hx dX8_image_9 kb_m2 ?_
    obtain rfl := Option.some.inj h
    exact dx_iret hO (pc := 11) dX8_image_11 rfl ⟨_, rfl, rfl, rfl⟩
set_option maxHeartbeats 4000000 in
set_option maxRecDepth 100000 in
theorem th_X8_restore {σ : dc_HP} {x1 : Int32} {r : Int32 × dc_HP} (h : fn_X8_restore σ x1 = some r) : dc_G mX8_restore [.ref 0, .int x1] σ (dc_qi (fun x τ => x = r.1 ∧ τ = r.2)) := by
  intro κ hO
  have hx : dc_Cx κ RX8 cX8_restore 3 2 69 := hO.1
  show dc_X κ 0 [some (.ref 0), some (.int x1), none] [] σ
  unfold fn_X8_restore at h
  refine dx_iload_n (pc := 0) hx dX8_restore_0 rfl ?_
  refine dx_iconst (pc := 1) hx dX8_restore_1 kc_0 ?_
  refine dx_iconst (pc := 2) hx dX8_restore_2 kc_1 ?_
  obtain ⟨r3, h3, h⟩ := Option.bind_eq_some_iff.mp h
  refine dx_callSir (pc := 3) (As := [.int x1, .int (nI 0), .int (nI 1)]) (rest := []) hx dX8_restore_3 k_X8_68 rfl (dc_le rfl) (dc_le rfl) (dc_le rfl) (dc_le rfl) rfl (th_X8_within h3) ?_
  refine dx_if_ne (pc := 6) hx dX8_restore_6 (tgt := 12) (by decide) (fun c6 => ?_) (fun c6 => ?_)
  · replace h := (if_neg c6).symm.trans h
    refine dx_iload_n (pc := 12) hx dX8_restore_12 rfl ?_
    refine dx_if_ne (pc := 13) hx dX8_restore_13 (tgt := 23) (by decide) (fun c13 => ?_) (fun c13 => ?_)
    · replace h := (if_neg c13).symm.trans h
      refine dx_aload_n (pc := 23) hx dX8_restore_23 rfl ?_
      refine dx_getR (r := 43) (pc := 24) hx dX8_restore_24 f_X8_65 rfl rfl ?_
      refine dx_astore_n (pc := 27) hx dX8_restore_27 (dc_le rfl) (ls' := [some (.ref 0), some (.int x1), some (.ref 43)]) rfl ?_
      refine dx_aload_n (pc := 28) hx dX8_restore_28 rfl ?_
      refine dx_getZ (pc := 29) hx dX8_restore_29 f_X8_263 rfl rfl ?_
      refine dx_if_ne (pc := 32) hx dX8_restore_32 (tgt := 38) (by decide) (fun c32 => ?_) (fun c32 => ?_)
      · replace h := (if_neg c32).symm.trans h
        refine dx_aload_n (pc := 38) hx dX8_restore_38 rfl ?_
        refine dx_getR (r := 1) (pc := 39) hx dX8_restore_39 f_X8_10 rfl rfl ?_
        refine dx_aload_n (pc := 42) hx dX8_restore_42 rfl ?_
        refine dx_getR (r := 44) (pc := 43) hx dX8_restore_43 f_X8_258 rfl rfl ?_
        obtain ⟨r46, h46, h⟩ := Option.bind_eq_some_iff.mp h
        refine dx_callVvw (pc := 46) (As := [.ref 44]) (rest := []) hx dX8_restore_46 k_X8_153 rfl rfl rfl rfl (dc_le rfl) (dc_le rfl) (dc_le rfl) (dc_le rfl) rfl (th_X0_copyFrom_44_1 h46) ?_
        refine dx_aload_n (pc := 49) hx dX8_restore_49 rfl ?_
        refine dx_getR (r := 7) (pc := 50) hx dX8_restore_50 f_X8_19 rfl rfl ?_
        refine dx_aload_n (pc := 53) hx dX8_restore_53 rfl ?_
        refine dx_getR (r := 50) (pc := 54) hx dX8_restore_54 f_X8_259 rfl rfl ?_
        obtain ⟨r57, h57, h⟩ := Option.bind_eq_some_iff.mp h
        refine dx_callVvw (pc := 57) (As := [.ref 50]) (rest := []) hx dX8_restore_57 k_X8_260 rfl rfl rfl rfl (dc_le rfl) (dc_le rfl) (dc_le rfl) (dc_le rfl) rfl (th_X6_copyFrom_50_7 h57) ?_
        refine dx_iconst (pc := 60) hx dX8_restore_60 kc_1 ?_
        obtain rfl := Option.some.inj h
        exact dx_iret hO (pc := 61) dX8_restore_61 rfl ⟨_, rfl, rfl, rfl⟩
      · replace h := (if_pos c32).symm.trans h
        refine dx_bipush (pc := 35) hx dX8_restore_35 kb_m3 ?_
        obtain rfl := Option.some.inj h
        exact dx_iret hO (pc := 37) dX8_restore_37 rfl ⟨_, rfl, rfl, rfl⟩
    · replace h := (if_pos c13).symm.trans h
      refine dx_aload_n (pc := 16) hx dX8_restore_16 rfl ?_
      refine dx_getR (r := 31) (pc := 17) hx dX8_restore_17 f_X8_61 rfl rfl ?_
      refine dx_goto (pc := 20) hx dX8_restore_20 (tgt := 27) (by decide) ?_
      refine dx_astore_n (pc := 27) hx dX8_restore_27 (dc_le rfl) (ls' := [some (.ref 0), some (.int x1), some (.ref 31)]) rfl ?_
      refine dx_aload_n (pc := 28) hx dX8_restore_28 rfl ?_
      refine dx_getZ (pc := 29) hx dX8_restore_29 f_X8_263 rfl rfl ?_
      refine dx_if_ne (pc := 32) hx dX8_restore_32 (tgt := 38) (by decide) (fun c32 => ?_) (fun c32 => ?_)
      · replace h := (if_neg c32).symm.trans h
        refine dx_aload_n (pc := 38) hx dX8_restore_38 rfl ?_
        refine dx_getR (r := 1) (pc := 39) hx dX8_restore_39 f_X8_10 rfl rfl ?_
        refine dx_aload_n (pc := 42) hx dX8_restore_42 rfl ?_
        refine dx_getR (r := 32) (pc := 43) hx dX8_restore_43 f_X8_258 rfl rfl ?_
        obtain ⟨r46, h46, h⟩ := Option.bind_eq_some_iff.mp h
        refine dx_callVvw (pc := 46) (As := [.ref 32]) (rest := []) hx dX8_restore_46 k_X8_153 rfl rfl rfl rfl (dc_le rfl) (dc_le rfl) (dc_le rfl) (dc_le rfl) rfl (th_X0_copyFrom_32_1 h46) ?_
        refine dx_aload_n (pc := 49) hx dX8_restore_49 rfl ?_
        refine dx_getR (r := 7) (pc := 50) hx dX8_restore_50 f_X8_19 rfl rfl ?_
        refine dx_aload_n (pc := 53) hx dX8_restore_53 rfl ?_
        refine dx_getR (r := 38) (pc := 54) hx dX8_restore_54 f_X8_259 rfl rfl ?_
        obtain ⟨r57, h57, h⟩ := Option.bind_eq_some_iff.mp h
        refine dx_callVvw (pc := 57) (As := [.ref 38]) (rest := []) hx dX8_restore_57 k_X8_260 rfl rfl rfl rfl (dc_le rfl) (dc_le rfl) (dc_le rfl) (dc_le rfl) rfl (th_X6_copyFrom_38_7 h57) ?_
        refine dx_iconst (pc := 60) hx dX8_restore_60 kc_1 ?_
        obtain rfl := Option.some.inj h
        exact dx_iret hO (pc := 61) dX8_restore_61 rfl ⟨_, rfl, rfl, rfl⟩
      · replace h := (if_pos c32).symm.trans h
        refine dx_bipush (pc := 35) hx dX8_restore_35 kb_m3 ?_
        obtain rfl := Option.some.inj h
        exact dx_iret hO (pc := 37) dX8_restore_37 rfl ⟨_, rfl, rfl, rfl⟩
  · replace h := (if_pos c6).symm.trans h
    refine dx_bipush (pc := 9) hx dX8_restore_9 kb_m2 ?_
    obtain rfl := Option.some.inj h
    exact dx_iret hO (pc := 11) dX8_restore_11 rfl ⟨_, rfl, rfl, rfl⟩
set_option maxHeartbeats 4000000 in
set_option maxRecDepth 100000 in
theorem th_X8_tellSinger {σ : dc_HP} {x1 : Int32} {x2 : Int32} {r : Int32} (h : fn_X8_tellSinger σ x1 x2 = some r) : dc_G mX8_tellSinger [.ref 0, .int x1, .int x2] σ (dc_qi (fun x τ => x = r ∧ τ = σ)) := by
  intro κ hO
  have hx : dc_Cx κ RX8 cX8_tellSinger 3 2 42 := hO.1
  show dc_X κ 0 [some (.ref 0), some (.int x1), some (.int x2)] [] σ
  unfold fn_X8_tellSinger at h
  refine dx_aload_n (pc := 0) hx dX8_tellSinger_0 rfl ?_
  refine dx_getR (r := 1) (pc := 1) hx dX8_tellSinger_1 f_X8_10 rfl rfl ?_
  refine dx_iload_n (pc := 4) hx dX8_tellSinger_4 rfl ?_
  obtain ⟨r5, h5, h⟩ := Option.bind_eq_some_iff.mp h
  refine dx_callVir (pc := 5) (As := [.int x1]) (rest := []) hx dX8_tellSinger_5 k_X8_86 rfl rfl rfl rfl (dc_le rfl) (dc_le rfl) (dc_le rfl) (dc_le rfl) rfl (th_X0_has_1 h5) ?_
  refine dx_if_ne (pc := 8) hx dX8_tellSinger_8 (tgt := 14) (by decide) (fun c8 => ?_) (fun c8 => ?_)
  · replace h := (if_neg c8).symm.trans h
    refine dx_iload_n (pc := 14) hx dX8_tellSinger_14 rfl ?_
    by_cases c15_0 : x2 = nI 0
    · replace h := (if_pos c15_0).symm.trans h
      refine dx_tableIn (pc := 15) hx dX8_tellSinger_15 (by rw [c15_0]; decide) (by rw [c15_0]; decide) (off := 29) (by rw [c15_0]; decide) (tgt := 44) (by decide) ?_
      refine dx_aload_n (pc := 44) hx dX8_tellSinger_44 rfl ?_
      refine dx_getR (r := 1) (pc := 45) hx dX8_tellSinger_45 f_X8_10 rfl rfl ?_
      refine dx_iload_n (pc := 48) hx dX8_tellSinger_48 rfl ?_
      obtain ⟨r49, h49, h⟩ := Option.bind_eq_some_iff.mp h
      refine dx_callVir (pc := 49) (As := [.int x1]) (rest := []) hx dX8_tellSinger_49 k_X8_276 rfl rfl rfl rfl (dc_le rfl) (dc_le rfl) (dc_le rfl) (dc_le rfl) rfl (th_X0_voiceOf_1 h49) ?_
      obtain rfl := Option.some.inj h
      exact dx_iret hO (pc := 52) dX8_tellSinger_52 rfl ⟨_, rfl, rfl, rfl⟩
    replace h := (if_neg c15_0).symm.trans h
    by_cases c15_1 : x2 = nI 1
    · replace h := (if_pos c15_1).symm.trans h
      refine dx_tableIn (pc := 15) hx dX8_tellSinger_15 (by rw [c15_1]; decide) (by rw [c15_1]; decide) (off := 38) (by rw [c15_1]; decide) (tgt := 53) (by decide) ?_
      refine dx_aload_n (pc := 53) hx dX8_tellSinger_53 rfl ?_
      refine dx_getR (r := 1) (pc := 54) hx dX8_tellSinger_54 f_X8_10 rfl rfl ?_
      refine dx_iload_n (pc := 57) hx dX8_tellSinger_57 rfl ?_
      obtain ⟨r58, h58, h⟩ := Option.bind_eq_some_iff.mp h
      refine dx_callVir (pc := 58) (As := [.int x1]) (rest := []) hx dX8_tellSinger_58 k_X8_128 rfl rfl rfl rfl (dc_le rfl) (dc_le rfl) (dc_le rfl) (dc_le rfl) rfl (th_X0_debtOf_1 h58) ?_
      obtain rfl := Option.some.inj h
      exact dx_iret hO (pc := 61) dX8_tellSinger_61 rfl ⟨_, rfl, rfl, rfl⟩
    replace h := (if_neg c15_1).symm.trans h
    by_cases c15_2 : x2 = nI 2
    · replace h := (if_pos c15_2).symm.trans h
      refine dx_tableIn (pc := 15) hx dX8_tellSinger_15 (by rw [c15_2]; decide) (by rw [c15_2]; decide) (off := 47) (by rw [c15_2]; decide) (tgt := 62) (by decide) ?_
      refine dx_aload_n (pc := 62) hx dX8_tellSinger_62 rfl ?_
      refine dx_getR (r := 1) (pc := 63) hx dX8_tellSinger_63 f_X8_10 rfl rfl ?_
      refine dx_getI (pc := 66) hx dX8_tellSinger_66 f_X8_131 rfl rfl ?_
      refine dx_iload_n (pc := 69) hx dX8_tellSinger_69 rfl ?_
      obtain ⟨r70, h70, h⟩ := Option.bind_eq_some_iff.mp h
      refine dx_callSir (pc := 70) (As := [.int (σ.1 1 1), .int x1]) (rest := []) hx dX8_tellSinger_70 k_X8_137 rfl (dc_le rfl) (dc_le rfl) (dc_le rfl) (dc_le rfl) rfl (th_X8_bit h70) ?_
      obtain rfl := Option.some.inj h
      exact dx_iret hO (pc := 73) dX8_tellSinger_73 rfl ⟨_, rfl, rfl, rfl⟩
    replace h := (if_neg c15_2).symm.trans h
    by_cases c15_3 : x2 = nI 3
    · replace h := (if_pos c15_3).symm.trans h
      refine dx_tableIn (pc := 15) hx dX8_tellSinger_15 (by rw [c15_3]; decide) (by rw [c15_3]; decide) (off := 59) (by rw [c15_3]; decide) (tgt := 74) (by decide) ?_
      refine dx_aload_n (pc := 74) hx dX8_tellSinger_74 rfl ?_
      refine dx_getR (r := 1) (pc := 75) hx dX8_tellSinger_75 f_X8_10 rfl rfl ?_
      refine dx_getI (pc := 78) hx dX8_tellSinger_78 f_X8_134 rfl rfl ?_
      refine dx_iload_n (pc := 81) hx dX8_tellSinger_81 rfl ?_
      obtain ⟨r82, h82, h⟩ := Option.bind_eq_some_iff.mp h
      refine dx_callSir (pc := 82) (As := [.int (σ.1 1 2), .int x1]) (rest := []) hx dX8_tellSinger_82 k_X8_137 rfl (dc_le rfl) (dc_le rfl) (dc_le rfl) (dc_le rfl) rfl (th_X8_bit h82) ?_
      obtain rfl := Option.some.inj h
      exact dx_iret hO (pc := 85) dX8_tellSinger_85 rfl ⟨_, rfl, rfl, rfl⟩
    replace h := (if_neg c15_3).symm.trans h
    refine dx_tableOut (pc := 15) hx dX8_tellSinger_15 (by have z0 := dc_swn (k := 0) (by decide) c15_0; have z1 := dc_swn (k := 1) (by decide) c15_1; have z2 := dc_swn (k := 2) (by decide) c15_2; have z3 := dc_swn (k := 3) (by decide) c15_3; omega) (tgt := 86) (by decide) ?_
    refine dx_bipush (pc := 86) hx dX8_tellSinger_86 kb_m2 ?_
    obtain rfl := Option.some.inj h
    exact dx_iret hO (pc := 88) dX8_tellSinger_88 rfl ⟨_, rfl, rfl, rfl⟩
  · replace h := (if_pos c8).symm.trans h
    refine dx_bipush (pc := 11) hx dX8_tellSinger_11 kb_m2 ?_
    obtain rfl := Option.some.inj h
    exact dx_iret hO (pc := 13) dX8_tellSinger_13 rfl ⟨_, rfl, rfl, rfl⟩
set_option maxHeartbeats 4000000 in
set_option maxRecDepth 100000 in
theorem th_X8_tellPiece {σ : dc_HP} {x1 : Int32} {x2 : Int32} {r : Int32} (h : fn_X8_tellPiece σ x1 x2 = some r) : dc_G mX8_tellPiece [.ref 0, .int x1, .int x2] σ (dc_qi (fun x τ => x = r ∧ τ = σ)) := by
  intro κ hO
  have hx : dc_Cx κ RX8 cX8_tellPiece 3 2 45 := hO.1
  show dc_X κ 0 [some (.ref 0), some (.int x1), some (.int x2)] [] σ
  unfold fn_X8_tellPiece at h
  refine dx_iload_n (pc := 0) hx dX8_tellPiece_0 rfl ?_
  refine dx_iconst (pc := 1) hx dX8_tellPiece_1 kc_0 ?_
  refine dx_iconst (pc := 2) hx dX8_tellPiece_2 kc_3 ?_
  obtain ⟨r3, h3, h⟩ := Option.bind_eq_some_iff.mp h
  refine dx_callSir (pc := 3) (As := [.int x2, .int (nI 0), .int (nI 3)]) (rest := []) hx dX8_tellPiece_3 k_X8_68 rfl (dc_le rfl) (dc_le rfl) (dc_le rfl) (dc_le rfl) rfl (th_X8_within h3) ?_
  refine dx_if_eq (pc := 6) hx dX8_tellPiece_6 (tgt := 19) (by decide) (fun c6 => ?_) (fun c6 => ?_)
  · replace h := (if_pos c6).symm.trans h
    refine dx_iload_n (pc := 19) hx dX8_tellPiece_19 rfl ?_
    refine dx_iconst (pc := 20) hx dX8_tellPiece_20 kc_4 ?_
    refine dx_icmp_ne (pc := 21) hx dX8_tellPiece_21 (tgt := 33) (by decide) (fun c21 => ?_) (fun c21 => ?_)
    · replace h := (if_neg c21).symm.trans h
      refine dx_iload_n (pc := 33) hx dX8_tellPiece_33 rfl ?_
      refine dx_iconst (pc := 34) hx dX8_tellPiece_34 kc_5 ?_
      refine dx_icmp_ne (pc := 35) hx dX8_tellPiece_35 (tgt := 49) (by decide) (fun c35 => ?_) (fun c35 => ?_)
      · replace h := (if_neg c35).symm.trans h
        refine dx_bipush (pc := 49) hx dX8_tellPiece_49 kb_m2 ?_
        obtain rfl := Option.some.inj h
        exact dx_iret hO (pc := 51) dX8_tellPiece_51 rfl ⟨_, rfl, rfl, rfl⟩
      · replace h := (if_pos c35).symm.trans h
        refine dx_aload_n (pc := 38) hx dX8_tellPiece_38 rfl ?_
        refine dx_getR (r := 1) (pc := 39) hx dX8_tellPiece_39 f_X8_10 rfl rfl ?_
        refine dx_iload_n (pc := 42) hx dX8_tellPiece_42 rfl ?_
        obtain ⟨r43, h43, h⟩ := Option.bind_eq_some_iff.mp h
        refine dx_callVir (pc := 43) (As := [.int x1]) (rest := []) hx dX8_tellPiece_43 k_X8_279 rfl rfl rfl rfl (dc_le rfl) (dc_le rfl) (dc_le rfl) (dc_le rfl) rfl (th_X0_payOf_1 h43) ?_
        refine dx_goto (pc := 46) hx dX8_tellPiece_46 (tgt := 51) (by decide) ?_
        obtain rfl := Option.some.inj h
        exact dx_iret hO (pc := 51) dX8_tellPiece_51 rfl ⟨_, rfl, rfl, rfl⟩
    · replace h := (if_pos c21).symm.trans h
      refine dx_aload_n (pc := 24) hx dX8_tellPiece_24 rfl ?_
      refine dx_getR (r := 1) (pc := 25) hx dX8_tellPiece_25 f_X8_10 rfl rfl ?_
      refine dx_iload_n (pc := 28) hx dX8_tellPiece_28 rfl ?_
      obtain ⟨r29, h29, h⟩ := Option.bind_eq_some_iff.mp h
      refine dx_callVir (pc := 29) (As := [.int x1]) (rest := []) hx dX8_tellPiece_29 k_X8_97 rfl rfl rfl rfl (dc_le rfl) (dc_le rfl) (dc_le rfl) (dc_le rfl) rfl (th_X0_barsOf_1 h29) ?_
      obtain rfl := Option.some.inj h
      exact dx_iret hO (pc := 32) dX8_tellPiece_32 rfl ⟨_, rfl, rfl, rfl⟩
  · replace h := (if_neg c6).symm.trans h
    refine dx_aload_n (pc := 9) hx dX8_tellPiece_9 rfl ?_
    refine dx_getR (r := 1) (pc := 10) hx dX8_tellPiece_10 f_X8_10 rfl rfl ?_
    refine dx_iload_n (pc := 13) hx dX8_tellPiece_13 rfl ?_
    refine dx_iload_n (pc := 14) hx dX8_tellPiece_14 rfl ?_
    obtain ⟨r15, h15, h⟩ := Option.bind_eq_some_iff.mp h
    refine dx_callVir (pc := 15) (As := [.int x1, .int x2]) (rest := []) hx dX8_tellPiece_15 k_X8_179 rfl rfl rfl rfl (dc_le rfl) (dc_le rfl) (dc_le rfl) (dc_le rfl) rfl (th_X0_needOf_1 h15) ?_
    obtain rfl := Option.some.inj h
    exact dx_iret hO (pc := 18) dX8_tellPiece_18 rfl ⟨_, rfl, rfl, rfl⟩
set_option maxHeartbeats 4000000 in
set_option maxRecDepth 100000 in
theorem th_X8_told {σ : dc_HP} {x1 : Int32} {r : Int32} (h : fn_X8_told σ x1 = some r) : dc_G mX8_told [.ref 0, .int x1] σ (dc_qi (fun x τ => x = r ∧ τ = σ)) := by
  intro κ hO
  have hx : dc_Cx κ RX8 cX8_told 2 3 67 := hO.1
  show dc_X κ 0 [some (.ref 0), some (.int x1)] [] σ
  unfold fn_X8_told at h
  refine dx_iload_n (pc := 0) hx dX8_told_0 rfl ?_
  refine dx_bipush (pc := 1) hx dX8_told_1 kb_100 ?_
  refine dx_sipush (pc := 3) hx dX8_told_3 ks_159 ?_
  obtain ⟨r6, h6, h⟩ := Option.bind_eq_some_iff.mp h
  refine dx_callSir (pc := 6) (As := [.int x1, .int (nI 100), .int (nI 159)]) (rest := []) hx dX8_told_6 k_X8_68 rfl (dc_le rfl) (dc_le rfl) (dc_le rfl) (dc_le rfl) rfl (th_X8_within h6) ?_
  refine dx_if_eq (pc := 9) hx dX8_told_9 (tgt := 28) (by decide) (fun c9 => ?_) (fun c9 => ?_)
  · replace h := (if_pos c9).symm.trans h
    refine dx_iload_n (pc := 28) hx dX8_told_28 rfl ?_
    refine dx_bipush (pc := 29) hx dX8_told_29 kb_10 ?_
    refine dx_bipush (pc := 31) hx dX8_told_31 kb_89 ?_
    obtain ⟨r33, h33, h⟩ := Option.bind_eq_some_iff.mp h
    refine dx_callSir (pc := 33) (As := [.int x1, .int (nI 10), .int (nI 89)]) (rest := []) hx dX8_told_33 k_X8_68 rfl (dc_le rfl) (dc_le rfl) (dc_le rfl) (dc_le rfl) rfl (th_X8_within h33) ?_
    refine dx_if_eq (pc := 36) hx dX8_told_36 (tgt := 54) (by decide) (fun c36 => ?_) (fun c36 => ?_)
    · replace h := (if_pos c36).symm.trans h
      refine dx_iload_n (pc := 54) hx dX8_told_54 rfl ?_
      by_cases c55_0 : x1 = nI 0
      · replace h := (if_pos c55_0).symm.trans h
        refine dx_tableIn (pc := 55) hx dX8_told_55 (by rw [c55_0]; decide) (by rw [c55_0]; decide) (off := 29) (by rw [c55_0]; decide) (tgt := 84) (by decide) ?_
        refine dx_aload_n (pc := 84) hx dX8_told_84 rfl ?_
        refine dx_getR (r := 12) (pc := 85) hx dX8_told_85 f_X8_26 rfl rfl ?_
        refine dx_getI (pc := 88) hx dX8_told_88 f_X8_107 rfl rfl ?_
        obtain rfl := Option.some.inj h
        exact dx_iret hO (pc := 91) dX8_told_91 rfl ⟨_, rfl, rfl, rfl⟩
      replace h := (if_neg c55_0).symm.trans h
      by_cases c55_1 : x1 = nI 1
      · replace h := (if_pos c55_1).symm.trans h
        refine dx_tableIn (pc := 55) hx dX8_told_55 (by rw [c55_1]; decide) (by rw [c55_1]; decide) (off := 37) (by rw [c55_1]; decide) (tgt := 92) (by decide) ?_
        refine dx_aload_n (pc := 92) hx dX8_told_92 rfl ?_
        refine dx_getR (r := 1) (pc := 93) hx dX8_told_93 f_X8_10 rfl rfl ?_
        refine dx_getI (pc := 96) hx dX8_told_96 f_X8_76 rfl rfl ?_
        obtain rfl := Option.some.inj h
        exact dx_iret hO (pc := 99) dX8_told_99 rfl ⟨_, rfl, rfl, rfl⟩
      replace h := (if_neg c55_1).symm.trans h
      by_cases c55_2 : x1 = nI 2
      · replace h := (if_pos c55_2).symm.trans h
        refine dx_tableIn (pc := 55) hx dX8_told_55 (by rw [c55_2]; decide) (by rw [c55_2]; decide) (off := 45) (by rw [c55_2]; decide) (tgt := 100) (by decide) ?_
        refine dx_aload_n (pc := 100) hx dX8_told_100 rfl ?_
        refine dx_getR (r := 1) (pc := 101) hx dX8_told_101 f_X8_10 rfl rfl ?_
        refine dx_getI (pc := 104) hx dX8_told_104 f_X8_273 rfl rfl ?_
        obtain rfl := Option.some.inj h
        exact dx_iret hO (pc := 107) dX8_told_107 rfl ⟨_, rfl, rfl, rfl⟩
      replace h := (if_neg c55_2).symm.trans h
      by_cases c55_3 : x1 = nI 3
      · replace h := (if_pos c55_3).symm.trans h
        refine dx_tableIn (pc := 55) hx dX8_told_55 (by rw [c55_3]; decide) (by rw [c55_3]; decide) (off := 53) (by rw [c55_3]; decide) (tgt := 108) (by decide) ?_
        refine dx_aload_n (pc := 108) hx dX8_told_108 rfl ?_
        refine dx_getR (r := 7) (pc := 109) hx dX8_told_109 f_X8_19 rfl rfl ?_
        refine dx_getI (pc := 112) hx dX8_told_112 f_X8_213 rfl rfl ?_
        obtain rfl := Option.some.inj h
        exact dx_iret hO (pc := 115) dX8_told_115 rfl ⟨_, rfl, rfl, rfl⟩
      replace h := (if_neg c55_3).symm.trans h
      refine dx_tableOut (pc := 55) hx dX8_told_55 (by have z0 := dc_swn (k := 0) (by decide) c55_0; have z1 := dc_swn (k := 1) (by decide) c55_1; have z2 := dc_swn (k := 2) (by decide) c55_2; have z3 := dc_swn (k := 3) (by decide) c55_3; omega) (tgt := 116) (by decide) ?_
      refine dx_bipush (pc := 116) hx dX8_told_116 kb_m2 ?_
      obtain rfl := Option.some.inj h
      exact dx_iret hO (pc := 118) dX8_told_118 rfl ⟨_, rfl, rfl, rfl⟩
    · replace h := (if_neg c36).symm.trans h
      refine dx_aload_n (pc := 39) hx dX8_told_39 rfl ?_
      refine dx_iload_n (pc := 40) hx dX8_told_40 rfl ?_
      refine dx_bipush (pc := 41) hx dX8_told_41 kb_10 ?_
      refine dx_idiv (pc := 43) hx dX8_told_43 (by decide) ?_
      refine dx_iconst (pc := 44) hx dX8_told_44 kc_1 ?_
      refine dx_isub (pc := 45) hx dX8_told_45 ?_
      refine dx_iload_n (pc := 46) hx dX8_told_46 rfl ?_
      refine dx_bipush (pc := 47) hx dX8_told_47 kb_10 ?_
      refine dx_irem (pc := 49) hx dX8_told_49 (by decide) ?_
      obtain ⟨r50, h50, h⟩ := Option.bind_eq_some_iff.mp h
      refine dx_callVir (pc := 50) (As := [.int ((x1 / (nI 10)) - (nI 1)), .int (x1 - x1 / (nI 10) * (nI 10))]) (rest := []) hx dX8_told_50 k_X8_270 rfl rfl rfl rfl (dc_le rfl) (dc_le rfl) (dc_le rfl) (dc_le rfl) rfl (th_X8_tellSinger h50) ?_
      obtain rfl := Option.some.inj h
      exact dx_iret hO (pc := 53) dX8_told_53 rfl ⟨_, rfl, rfl, rfl⟩
  · replace h := (if_neg c9).symm.trans h
    refine dx_aload_n (pc := 12) hx dX8_told_12 rfl ?_
    refine dx_iload_n (pc := 13) hx dX8_told_13 rfl ?_
    refine dx_bipush (pc := 14) hx dX8_told_14 kb_100 ?_
    refine dx_isub (pc := 16) hx dX8_told_16 ?_
    refine dx_bipush (pc := 17) hx dX8_told_17 kb_10 ?_
    refine dx_idiv (pc := 19) hx dX8_told_19 (by decide) ?_
    refine dx_iload_n (pc := 20) hx dX8_told_20 rfl ?_
    refine dx_bipush (pc := 21) hx dX8_told_21 kb_10 ?_
    refine dx_irem (pc := 23) hx dX8_told_23 (by decide) ?_
    obtain ⟨r24, h24, h⟩ := Option.bind_eq_some_iff.mp h
    refine dx_callVir (pc := 24) (As := [.int ((x1 - (nI 100)) / (nI 10)), .int (x1 - x1 / (nI 10) * (nI 10))]) (rest := []) hx dX8_told_24 k_X8_267 rfl rfl rfl rfl (dc_le rfl) (dc_le rfl) (dc_le rfl) (dc_le rfl) rfl (th_X8_tellPiece h24) ?_
    obtain rfl := Option.some.inj h
    exact dx_iret hO (pc := 27) dX8_told_27 rfl ⟨_, rfl, rfl, rfl⟩
